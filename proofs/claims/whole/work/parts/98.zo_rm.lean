/-! THE CLASS'S Reader: sums, terms, tests; written by wip/whole/mdl.py from zo_rm.txt -/
/-- what stands when a loop of kinds 8 .. 11 comes round: the code from cs0 on answers f1 -/
def RLI (b : Nat → Nat) (n sl cs0 lv0 : Nat) (w0 : Nat → Nat) (X0 X : cx_T) (f1 : dn_T) (s cs lv : Nat) (w : Nat → Nat) : Prop := kp4 X0 X ∧ RS b n s cs lv w X ∧ s ≤ n ∧ (∀ i, i < cs0 → w i = w0 i) ∧ cs + sl ≤ 2 * s ∧ lv ≤ 50 ∧ ∃ m, m + lv0 ≤ lv ∧ CW w cs0 cs m f1
def KL (b : Nat → Nat) (n F k dp : Nat) (G : Nat → cx_T → ms_S → (Option Value → ms_S → Prop) → Prop) : Prop := ∀ (X0 X : cx_T) (t : ms_S) (f1 : dn_T) (s cs lv sl cs0 lv0 j : Nat) (w0 w : Nat → Nat) (res : pr_T), pz b n F k dp f1 s lv = some res → RLI b n sl cs0 lv0 w0 X0 X f1 s cs lv w → j + 1 ≤ lv → G j X t (RDq b n sl cs0 lv0 w0 X0 t res)
abbrev gTest (D dp : Nat) (j : Nat) (X : cx_T) (t : ms_S) (Q : Option Value → ms_S → Prop) : Prop := ms_V cd_X5_readTest none 4 (ms_Cl D) Q 12 [(0, .ref 3), (1, .int (nI dp)), (2, .int (nI j))] [] (ms_x X t)
abbrev gBoth (D dp : Nat) (j : Nat) (X : cx_T) (t : ms_S) (Q : Option Value → ms_S → Prop) : Prop := ms_V cd_X5_readBoth none 4 (ms_Cl D) Q 12 [(0, .ref 3), (1, .int (nI dp)), (2, .int (nI j))] [] (ms_x X t)
abbrev gSum (D dp : Nat) (j : Nat) (X : cx_T) (t : ms_S) (Q : Option Value → ms_S → Prop) : Prop := ms_V cd_X5_readSum none 4 (ms_Cl D) Q 12 [(0, .ref 3), (1, .int (nI dp)), (2, .int (nI j))] [] (ms_x X t)
abbrev gTerm (D dp : Nat) (j : Nat) (X : cx_T) (t : ms_S) (Q : Option Value → ms_S → Prop) : Prop := ms_V cd_X5_readTerm none 4 (ms_Cl D) Q 12 [(0, .ref 3), (1, .int (nI dp)), (2, .int (nI j))] [] (ms_x X t)
section Rm
variable {b w w0 : Nat → Nat} {n s e f k c d D p cs cs0 lv lv0 sl j dp y : Nat} {X Y Z X0 : cx_T} {t g : ms_S} {res : pr_T} {as : List Value} {f0 f1 : dn_T}
theorem LI_out (h : RLI b n sl cs0 lv0 w0 X0 X f1 s cs lv w) : RDq b n sl cs0 lv0 w0 X0 t (.inl (f1, s, lv)) (some (.int 1)) (ms_x X t) := by
  obtain ⟨h1, h2, h3, h4, h5, h6, m, h7, h8⟩ := h
  exact ⟨X, w, cs, m, h1, rfl, rfl, h2, h3, h4, h5, h7, h6, h8⟩
theorem RD_fail (h1 : kp4 X Y) (h2 : TC Y b n) (h3 : cx_i Y 3 6 = nI p) : RDq b n sl cs lv w X t (.inr p) (some (.int 0)) (ms_x Y t) := ⟨Y, h1, rfl, rfl, h2, h3⟩
theorem pzB_e {r : Option pr_T} {q : dn_T → Nat → Nat → Option pr_T} (h : pzB r q = some res) : ∃ r1, r = some r1 := by
  cases r with
  | none => cases h
  | some x => exact ⟨x, rfl⟩
theorem tk_ne (ht : tkc b n s < 2 ^ 31) {v : Nat} (hv : v < 2 ^ 31) (h : tkc b n s ≠ v) : ¬ nI (tkc b n s) = nI v := fun z => h ((ms_nI_eq ht hv).mp z)
theorem k_readTerm (hT : KN b n f 7 80 (d + 6) dp) (hL : KL b n f 11 dp (gTerm (d + 6) dp)) : KN b n (f + 1) 6 79 (d + 7) dp := by
  intro X t f0 s cs lv sl w res hres h hs hcs hlv
  rw [pz_6] at hres
  obtain ⟨r1, hr1⟩ := pzB_e hres
  rw [hr1] at hres
  refine mx_m (fun a b c => m_X5_readTerm a b ⟨_, xo_3⟩ c) RDq_l (b_X5_readTerm_0 (rd_c1 (hT X t f0 s cs lv sl w r1 hr1 h hs hcs hlv) (fun Z p e1 k1 t1 h6 => ?_) (fun a Z w' cs' m' e1 k1 R1 hsn l1 c1 m1 v1 cw => ?_)))
  · subst e1
    have e2 : res = .inr p := (Option.some.inj hres).symm
    subst e2
    exact ms_yes rfl ⟨(by first | exact Or.inr rfl | exact Or.inl rfl | exact Or.inl trivial | exact Or.inr trivial | trivial), RD_fail k1 t1 h6⟩
  · subst e1
    have hq : pz b n f 11 dp a.1 a.2.1 a.2.2 = some res := hres
    refine ms_no (by decide) ?_
    rw [show (0 : Int32) = nI 0 from rfl]
    exact hL X Z t a.1 a.2.1 cs' a.2.2 sl cs lv 0 w w' res hq ⟨k1, R1, hsn, l1, c1, v1, m', m1, cw⟩ (by have := cw.2.1; omega)
theorem k_loopTerm (hW : HW) (hT : KN b n f 7 80 (d + 6) dp) (hL : KL b n f 11 dp (gTerm (d + 6) dp)) : KL b n (f + 1) 11 dp (gTerm (d + 6) dp) := by
  intro X0 X t f1 s cs lv sl cs0 lv0 j w0 w res hres hI hj
  have hI' := hI
  obtain ⟨h1, h2, h3, h4, h5, h6, m, h7, h8⟩ := hI
  rw [pz_11] at hres
  have hn := h2.1.1
  have htl := tkc_lt (s := s) h2.1
  have h28 := h2.2.1.2.2.1
  refine b_X5_readTerm_12 (ms_no (fun z => by rw [show (400 : Int32) = nI 400 from rfl, ms_nle (by omega) (by omega)] at z; omega) (ms_oI_i xf_3_8 ?_))
  rw [h28]
  have body : s < tkx b n s → tkx b n s ≤ n → tkc b n s < 256 → pzB (pz b n f 7 dp f1 (tkx b n s) lv) (fun g s1 lv1 => pz b n f 11 dp (dn_op (tkc b n s) f1 g) s1 lv1) = some res → ms_oI (ms_fldI (ms_x X t) 3 5 8) fun x2 => ms_c0 (ms_Cl (d + 6) 86 [.ref 3] (ms_x X t)) fun g3 => ms_c1 (ms_Cl (d + 6) 80 [.ref 3, .int (nI dp)] g3) fun r5 g4 => if r5 = 0 then ((0 = (0 : Int32) ∨ 0 = (1 : Int32)) ∧ RDq b n sl cs0 lv0 w0 X0 t res (some (.int 0)) g4) else (ms_c0 (ms_Cl (d + 6) 85 [.ref 3, .int x2] g4) fun g6 => ms_V cd_X5_readTerm none 4 (ms_Cl (d + 6)) (RDq b n sl cs0 lv0 w0 X0 t res) 12 [(0, .ref 3), (1, .int (nI dp)), (2, .int (nI j + 1))] [] g6) := by
    intro g1 g2 g3 hr
    refine ms_oI_i xf_3_8 ?_
    rw [h28]
    refine mk_n0 (k_adv (d := d) hW h2 h3) (fun Y hk hR => ?_)
    obtain ⟨r1, hr1⟩ := pzB_e hr
    rw [hr1] at hr
    refine rd_c1 (hT Y t f1 (tkx b n s) cs lv (sl + 1) w r1 hr1 hR g2 (by omega) h6) (fun Z p e1 k1 t1 h6 => ?_) (fun a Z w' cs' m' e1 k1 R1 hsn l1 c1 m1 v1 cw => ?_)
    · subst e1
      have e2 : res = .inr p := (Option.some.inj hr).symm
      subst e2
      exact ms_yes rfl ⟨(by first | exact Or.inr rfl | exact Or.inl rfl | exact Or.inl trivial | exact Or.inr trivial | trivial), RD_fail (kp4_t h1 (kp4_t (kp4_3 hk) k1)) t1 h6⟩
    · subst e1
      have hq : pz b n f 11 dp (dn_op (tkc b n s) f1 a.1) a.2.1 a.2.2 = some res := hr
      have q1 := cw.1
      have q2 := cw.2.1
      have q3 := h8.1
      refine ms_no (by decide) (ms_c0_i (k_emit (d := d + 5) R1.2.2.1 (by omega)) ?_)
      rw [show nI j + 1 = nI (j + 1) from ms_p1 1]
      refine hL X0 _ t _ _ (cs' + 1) _ sl cs0 lv0 (j + 1) w0 _ res hq ⟨kp4_t h1 (kp4_t (kp4_3 hk) (kp4_t k1 em_k)), RS_e (v := tkc b n s) R1 (by omega), hsn, fun i hi => ?_, by omega, v1, m + m', by omega, ?_⟩ (by omega)
      · show (if i = cs' then tkc b n s else w' i) = w0 i
        rw [if_neg (by omega), l1 i (by omega), h4 i hi]
      · refine CW_op (CW.loc h8 (fun i i1 i2 => ?_)) (CW.loc cw (fun i i1 i2 => ?_)) (k := tkc b n s) ?_ g3
        · show (if i = cs' then tkc b n s else w' i) = w i
          rw [if_neg (by omega), l1 i (by omega)]
        · show (if i = cs' then tkc b n s else w' i) = w' i
          rw [if_neg (by omega)]
        · show (if cs' = cs' then tkc b n s else w' cs') = tkc b n s
          rw [if_pos rfl]
  by_cases ht : tkc b n s = 42 ∨ tkc b n s = 47
  · rw [if_pos ht] at hres
    have gt := tok_gt h3 (show tkc b n s ≠ 301 by omega)
    have hb := body gt.1 gt.2 (by omega) hres
    rcases ht with ht | ht
    · exact ms_yes (by rw [ht]; rfl) hb
    · refine ms_no (tk_ne htl (v := 42) (by decide) (by omega)) (ms_oI_i xf_3_8 ?_)
      rw [h28]
      exact ms_yes (by rw [ht]; rfl) hb
  · rw [if_neg ht] at hres
    have e2 := Option.some.inj hres
    subst e2
    refine ms_no (tk_ne htl (v := 42) (by decide) (by omega)) (ms_oI_i xf_3_8 ?_)
    rw [h28]
    exact ms_no (tk_ne htl (v := 47) (by decide) (by omega)) ⟨(by first | exact Or.inr rfl | exact Or.inl rfl | exact Or.inl trivial | exact Or.inr trivial | trivial), LI_out hI'⟩
theorem k_readSum (hT : KN b n f 6 79 (d + 6) dp) (hL : KL b n f 10 dp (gSum (d + 6) dp)) : KN b n (f + 1) 5 78 (d + 7) dp := by
  intro X t f0 s cs lv sl w res hres h hs hcs hlv
  rw [pz_5] at hres
  obtain ⟨r1, hr1⟩ := pzB_e hres
  rw [hr1] at hres
  refine mx_m (fun a b c => m_X5_readSum a b ⟨_, xo_3⟩ c) RDq_l (b_X5_readSum_0 (rd_c1 (hT X t f0 s cs lv sl w r1 hr1 h hs hcs hlv) (fun Z p e1 k1 t1 h6 => ?_) (fun a Z w' cs' m' e1 k1 R1 hsn l1 c1 m1 v1 cw => ?_)))
  · subst e1
    have e2 : res = .inr p := (Option.some.inj hres).symm
    subst e2
    exact ms_yes rfl ⟨(by first | exact Or.inr rfl | exact Or.inl rfl | exact Or.inl trivial | exact Or.inr trivial | trivial), RD_fail k1 t1 h6⟩
  · subst e1
    have hq : pz b n f 10 dp a.1 a.2.1 a.2.2 = some res := hres
    refine ms_no (by decide) ?_
    rw [show (0 : Int32) = nI 0 from rfl]
    exact hL X Z t a.1 a.2.1 cs' a.2.2 sl cs lv 0 w w' res hq ⟨k1, R1, hsn, l1, c1, v1, m', m1, cw⟩ (by have := cw.2.1; omega)
theorem k_loopSum (hW : HW) (hT : KN b n f 6 79 (d + 6) dp) (hL : KL b n f 10 dp (gSum (d + 6) dp)) : KL b n (f + 1) 10 dp (gSum (d + 6) dp) := by
  intro X0 X t f1 s cs lv sl cs0 lv0 j w0 w res hres hI hj
  have hI' := hI
  obtain ⟨h1, h2, h3, h4, h5, h6, m, h7, h8⟩ := hI
  rw [pz_10] at hres
  have hn := h2.1.1
  have htl := tkc_lt (s := s) h2.1
  have h28 := h2.2.1.2.2.1
  refine b_X5_readSum_12 (ms_no (fun z => by rw [show (400 : Int32) = nI 400 from rfl, ms_nle (by omega) (by omega)] at z; omega) (ms_oI_i xf_3_8 ?_))
  rw [h28]
  have body : s < tkx b n s → tkx b n s ≤ n → tkc b n s < 256 → pzB (pz b n f 6 dp f1 (tkx b n s) lv) (fun g s1 lv1 => pz b n f 10 dp (dn_op (tkc b n s) f1 g) s1 lv1) = some res → ms_oI (ms_fldI (ms_x X t) 3 5 8) fun x2 => ms_c0 (ms_Cl (d + 6) 86 [.ref 3] (ms_x X t)) fun g3 => ms_c1 (ms_Cl (d + 6) 79 [.ref 3, .int (nI dp)] g3) fun r5 g4 => if r5 = 0 then ((0 = (0 : Int32) ∨ 0 = (1 : Int32)) ∧ RDq b n sl cs0 lv0 w0 X0 t res (some (.int 0)) g4) else (ms_c0 (ms_Cl (d + 6) 85 [.ref 3, .int x2] g4) fun g6 => ms_V cd_X5_readSum none 4 (ms_Cl (d + 6)) (RDq b n sl cs0 lv0 w0 X0 t res) 12 [(0, .ref 3), (1, .int (nI dp)), (2, .int (nI j + 1))] [] g6) := by
    intro g1 g2 g3 hr
    refine ms_oI_i xf_3_8 ?_
    rw [h28]
    refine mk_n0 (k_adv (d := d) hW h2 h3) (fun Y hk hR => ?_)
    obtain ⟨r1, hr1⟩ := pzB_e hr
    rw [hr1] at hr
    refine rd_c1 (hT Y t f1 (tkx b n s) cs lv (sl + 1) w r1 hr1 hR g2 (by omega) h6) (fun Z p e1 k1 t1 h6 => ?_) (fun a Z w' cs' m' e1 k1 R1 hsn l1 c1 m1 v1 cw => ?_)
    · subst e1
      have e2 : res = .inr p := (Option.some.inj hr).symm
      subst e2
      exact ms_yes rfl ⟨(by first | exact Or.inr rfl | exact Or.inl rfl | exact Or.inl trivial | exact Or.inr trivial | trivial), RD_fail (kp4_t h1 (kp4_t (kp4_3 hk) k1)) t1 h6⟩
    · subst e1
      have hq : pz b n f 10 dp (dn_op (tkc b n s) f1 a.1) a.2.1 a.2.2 = some res := hr
      have q1 := cw.1
      have q2 := cw.2.1
      have q3 := h8.1
      refine ms_no (by decide) (ms_c0_i (k_emit (d := d + 5) R1.2.2.1 (by omega)) ?_)
      rw [show nI j + 1 = nI (j + 1) from ms_p1 1]
      refine hL X0 _ t _ _ (cs' + 1) _ sl cs0 lv0 (j + 1) w0 _ res hq ⟨kp4_t h1 (kp4_t (kp4_3 hk) (kp4_t k1 em_k)), RS_e (v := tkc b n s) R1 (by omega), hsn, fun i hi => ?_, by omega, v1, m + m', by omega, ?_⟩ (by omega)
      · show (if i = cs' then tkc b n s else w' i) = w0 i
        rw [if_neg (by omega), l1 i (by omega), h4 i hi]
      · refine CW_op (CW.loc h8 (fun i i1 i2 => ?_)) (CW.loc cw (fun i i1 i2 => ?_)) (k := tkc b n s) ?_ g3
        · show (if i = cs' then tkc b n s else w' i) = w i
          rw [if_neg (by omega), l1 i (by omega)]
        · show (if i = cs' then tkc b n s else w' i) = w' i
          rw [if_neg (by omega)]
        · show (if cs' = cs' then tkc b n s else w' cs') = tkc b n s
          rw [if_pos rfl]
  by_cases ht : tkc b n s = 43 ∨ tkc b n s = 45
  · rw [if_pos ht] at hres
    have gt := tok_gt h3 (show tkc b n s ≠ 301 by omega)
    have hb := body gt.1 gt.2 (by omega) hres
    rcases ht with ht | ht
    · exact ms_yes (by rw [ht]; rfl) hb
    · refine ms_no (tk_ne htl (v := 43) (by decide) (by omega)) (ms_oI_i xf_3_8 ?_)
      rw [h28]
      exact ms_yes (by rw [ht]; rfl) hb
  · rw [if_neg ht] at hres
    have e2 := Option.some.inj hres
    subst e2
    refine ms_no (tk_ne htl (v := 43) (by decide) (by omega)) (ms_oI_i xf_3_8 ?_)
    rw [h28]
    exact ms_no (tk_ne htl (v := 45) (by decide) (by omega)) ⟨(by first | exact Or.inr rfl | exact Or.inl rfl | exact Or.inl trivial | exact Or.inr trivial | trivial), LI_out hI'⟩
theorem k_readBoth (hT : KN b n f 2 75 (d + 6) dp) (hL : KL b n f 9 dp (gBoth (d + 6) dp)) : KN b n (f + 1) 1 74 (d + 7) dp := by
  intro X t f0 s cs lv sl w res hres h hs hcs hlv
  rw [pz_1] at hres
  obtain ⟨r1, hr1⟩ := pzB_e hres
  rw [hr1] at hres
  refine mx_m (fun a b c => m_X5_readBoth a b ⟨_, xo_3⟩ c) RDq_l (b_X5_readBoth_0 (rd_c1 (hT X t f0 s cs lv sl w r1 hr1 h hs hcs hlv) (fun Z p e1 k1 t1 h6 => ?_) (fun a Z w' cs' m' e1 k1 R1 hsn l1 c1 m1 v1 cw => ?_)))
  · subst e1
    have e2 : res = .inr p := (Option.some.inj hres).symm
    subst e2
    exact ms_yes rfl ⟨(by first | exact Or.inr rfl | exact Or.inl rfl | exact Or.inl trivial | exact Or.inr trivial | trivial), RD_fail k1 t1 h6⟩
  · subst e1
    have hq : pz b n f 9 dp a.1 a.2.1 a.2.2 = some res := hres
    refine ms_no (by decide) ?_
    rw [show (0 : Int32) = nI 0 from rfl]
    exact hL X Z t a.1 a.2.1 cs' a.2.2 sl cs lv 0 w w' res hq ⟨k1, R1, hsn, l1, c1, v1, m', m1, cw⟩ (by have := cw.2.1; omega)
theorem k_loopBoth (hW : HW) (hT : KN b n f 2 75 (d + 7) dp) (hL : KL b n f 9 dp (gBoth (d + 7) dp)) : KL b n (f + 1) 9 dp (gBoth (d + 7) dp) := by
  intro X0 X t f1 s cs lv sl cs0 lv0 j w0 w res hres hI hj
  have hI' := hI
  obtain ⟨h1, h2, h3, h4, h5, h6, m, h7, h8⟩ := hI
  rw [pz_9] at hres
  have hn := h2.1.1
  have htl := tkc_lt (s := s) h2.1
  have h28 := h2.2.1.2.2.1
  refine b_X5_readBoth_12 (ms_no (fun z => by rw [show (400 : Int32) = nI 400 from rfl, ms_nle (by omega) (by omega)] at z; omega) (ms_oI_i xf_3_8 ?_))
  rw [h28]
  by_cases ht : tkc b n s = 275
  · rw [if_pos ht] at hres
    have gt := tok_gt h3 (show tkc b n s ≠ 301 by omega)
    refine ms_yes (by rw [ht]; rfl) ?_
    refine mj_c1 (k_emitJump (d := d) hW h2 h3 (by omega) (by omega) (by omega)) (fun Y hk hR => ?_)
    obtain ⟨r1, hr1⟩ := pzB_e hres
    rw [hr1] at hres
    refine rd_c1 (hT Y t f1 (tkx b n s) (cs + 2) lv sl _ r1 hr1 hR gt.2 (by omega) h6) (fun Z p e1 k1 t1 h6 => ?_) (fun a Z w' cs' m' e1 k1 R1 hsn l1 c1 m1 v1 cw => ?_)
    · subst e1
      have e2 : res = .inr p := (Option.some.inj hres).symm
      subst e2
      exact ms_yes rfl ⟨(by first | exact Or.inr rfl | exact Or.inl rfl | exact Or.inl trivial | exact Or.inr trivial | trivial), RD_fail (kp4_t h1 (kp4_t hk k1)) t1 h6⟩
    · subst e1
      have hq : pz b n f 9 dp (dn_and f1 a.1) a.2.1 a.2.2 = some res := hres
      have z1 := cw.1
      have z2 := cw.2.1
      have z3 := h8.1
      refine ms_no (by decide) ?_
      obtain ⟨q1, q2, q3⟩ := k_aim (d := d + 6) (t := t) R1 (j := cs + 1) (by omega) (by omega)
      refine ms_c0_i q1 ?_
      rw [show nI j + 1 = nI (j + 1) from ms_p1 1]
      refine hL X0 _ t _ _ cs' _ sl cs0 lv0 (j + 1) w0 _ res hq ⟨kp4_t h1 (kp4_t hk (kp4_t k1 q3)), q2, hsn, fun i hi => ?_, c1, v1, m + m', by omega, ?_⟩ (by omega)
      · show (if i = cs + 1 then cs' else w' i) = w0 i
        rw [if_neg (by omega), l1 i (by omega)]
        show (if i = cs + 1 then 0 else if i = cs then tkc b n s else w i) = w0 i
        rw [if_neg (by omega), if_neg (by omega), h4 i hi]
      · refine CW_and (m := cs) (CW.loc h8 (fun i i1 i2 => ?_)) ?_ ?_ (CW.loc cw (fun i i1 i2 => ?_))
        · show (if i = cs + 1 then cs' else w' i) = w i
          rw [if_neg (by omega), l1 i (by omega)]
          show (if i = cs + 1 then 0 else if i = cs then tkc b n s else w i) = w i
          rw [if_neg (by omega), if_neg (by omega)]
        · show (if cs = cs + 1 then cs' else w' cs) = 275
          rw [if_neg (by omega), l1 cs (by omega)]
          show (if cs = cs + 1 then 0 else if cs = cs then tkc b n s else w cs) = 275
          rw [if_neg (by omega), if_pos rfl, ht]
        · show (if cs + 1 = cs + 1 then cs' else w' (cs + 1)) = cs'
          rw [if_pos rfl]
        · show (if i = cs + 1 then cs' else w' i) = w' i
          rw [if_neg (by omega)]
  · rw [if_neg ht] at hres
    have e2 := Option.some.inj hres
    subst e2
    exact ms_no (tk_ne htl (v := 275) (by decide) ht) ⟨(by first | exact Or.inr rfl | exact Or.inl rfl | exact Or.inl trivial | exact Or.inr trivial | trivial), LI_out hI'⟩
theorem k_readTest (hT : KN b n f 1 74 (d + 6) dp) (hL : KL b n f 8 dp (gTest (d + 6) dp)) : KN b n (f + 1) 0 73 (d + 7) dp := by
  intro X t f0 s cs lv sl w res hres h hs hcs hlv
  rw [pz_0] at hres
  obtain ⟨r1, hr1⟩ := pzB_e hres
  rw [hr1] at hres
  refine mx_m (fun a b c => m_X5_readTest a b ⟨_, xo_3⟩ c) RDq_l (b_X5_readTest_0 (rd_c1 (hT X t f0 s cs lv sl w r1 hr1 h hs hcs hlv) (fun Z p e1 k1 t1 h6 => ?_) (fun a Z w' cs' m' e1 k1 R1 hsn l1 c1 m1 v1 cw => ?_)))
  · subst e1
    have e2 : res = .inr p := (Option.some.inj hres).symm
    subst e2
    exact ms_yes rfl ⟨(by first | exact Or.inr rfl | exact Or.inl rfl | exact Or.inl trivial | exact Or.inr trivial | trivial), RD_fail k1 t1 h6⟩
  · subst e1
    have hq : pz b n f 8 dp a.1 a.2.1 a.2.2 = some res := hres
    refine ms_no (by decide) ?_
    rw [show (0 : Int32) = nI 0 from rfl]
    exact hL X Z t a.1 a.2.1 cs' a.2.2 sl cs lv 0 w w' res hq ⟨k1, R1, hsn, l1, c1, v1, m', m1, cw⟩ (by have := cw.2.1; omega)
theorem k_loopTest (hW : HW) (hT : KN b n f 1 74 (d + 7) dp) (hL : KL b n f 8 dp (gTest (d + 7) dp)) : KL b n (f + 1) 8 dp (gTest (d + 7) dp) := by
  intro X0 X t f1 s cs lv sl cs0 lv0 j w0 w res hres hI hj
  have hI' := hI
  obtain ⟨h1, h2, h3, h4, h5, h6, m, h7, h8⟩ := hI
  rw [pz_8] at hres
  have hn := h2.1.1
  have htl := tkc_lt (s := s) h2.1
  have h28 := h2.2.1.2.2.1
  refine b_X5_readTest_12 (ms_no (fun z => by rw [show (400 : Int32) = nI 400 from rfl, ms_nle (by omega) (by omega)] at z; omega) (ms_oI_i xf_3_8 ?_))
  rw [h28]
  by_cases ht : tkc b n s = 274
  · rw [if_pos ht] at hres
    have gt := tok_gt h3 (show tkc b n s ≠ 301 by omega)
    refine ms_yes (by rw [ht]; rfl) ?_
    refine mj_c1 (k_emitJump (d := d) hW h2 h3 (by omega) (by omega) (by omega)) (fun Y hk hR => ?_)
    obtain ⟨r1, hr1⟩ := pzB_e hres
    rw [hr1] at hres
    refine rd_c1 (hT Y t f1 (tkx b n s) (cs + 2) lv sl _ r1 hr1 hR gt.2 (by omega) h6) (fun Z p e1 k1 t1 h6 => ?_) (fun a Z w' cs' m' e1 k1 R1 hsn l1 c1 m1 v1 cw => ?_)
    · subst e1
      have e2 : res = .inr p := (Option.some.inj hres).symm
      subst e2
      exact ms_yes rfl ⟨(by first | exact Or.inr rfl | exact Or.inl rfl | exact Or.inl trivial | exact Or.inr trivial | trivial), RD_fail (kp4_t h1 (kp4_t hk k1)) t1 h6⟩
    · subst e1
      have hq : pz b n f 8 dp (dn_or f1 a.1) a.2.1 a.2.2 = some res := hres
      have z1 := cw.1
      have z2 := cw.2.1
      have z3 := h8.1
      refine ms_no (by decide) ?_
      obtain ⟨q1, q2, q3⟩ := k_aim (d := d + 6) (t := t) R1 (j := cs + 1) (by omega) (by omega)
      refine ms_c0_i q1 ?_
      rw [show nI j + 1 = nI (j + 1) from ms_p1 1]
      refine hL X0 _ t _ _ cs' _ sl cs0 lv0 (j + 1) w0 _ res hq ⟨kp4_t h1 (kp4_t hk (kp4_t k1 q3)), q2, hsn, fun i hi => ?_, c1, v1, m + m', by omega, ?_⟩ (by omega)
      · show (if i = cs + 1 then cs' else w' i) = w0 i
        rw [if_neg (by omega), l1 i (by omega)]
        show (if i = cs + 1 then 0 else if i = cs then tkc b n s else w i) = w0 i
        rw [if_neg (by omega), if_neg (by omega), h4 i hi]
      · refine CW_or (m := cs) (CW.loc h8 (fun i i1 i2 => ?_)) ?_ ?_ (CW.loc cw (fun i i1 i2 => ?_))
        · show (if i = cs + 1 then cs' else w' i) = w i
          rw [if_neg (by omega), l1 i (by omega)]
          show (if i = cs + 1 then 0 else if i = cs then tkc b n s else w i) = w i
          rw [if_neg (by omega), if_neg (by omega)]
        · show (if cs = cs + 1 then cs' else w' cs) = 274
          rw [if_neg (by omega), l1 cs (by omega)]
          show (if cs = cs + 1 then 0 else if cs = cs then tkc b n s else w cs) = 274
          rw [if_neg (by omega), if_pos rfl, ht]
        · show (if cs + 1 = cs + 1 then cs' else w' (cs + 1)) = cs'
          rw [if_pos rfl]
        · show (if i = cs + 1 then cs' else w' i) = w' i
          rw [if_neg (by omega)]
  · rw [if_neg ht] at hres
    have e2 := Option.some.inj hres
    subst e2
    exact ms_no (tk_ne htl (v := 274) (by decide) ht) ⟨(by first | exact Or.inr rfl | exact Or.inl rfl | exact Or.inl trivial | exact Or.inr trivial | trivial), LI_out hI'⟩
end Rm
