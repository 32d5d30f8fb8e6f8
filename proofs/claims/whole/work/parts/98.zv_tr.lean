/-! THE MODEL'S READER: its turns; written by wip/whole/mdl.py from zv_tr.txt -/
def RPq (b : Nat → Nat) (n s lv : Nat) (L : pl_T) (op c : Nat) (o a : Nat → Nat) (v : Int32) (N : md_T) : Prop :=
  if tkc b n s = 91 then (if 8 ≤ op then MB (tkp b n s) N else v = 1 ∧ ZS b n (tkx b n s) lv ((31, 0) :: L) (op + 1) c o a N) else
  if 256 ≤ tkc b n s ∧ tkc b n s < 263 then (if 50 ≤ lv then MB (tkp b n s) N else v = 3 ∧ ZS b n (tkx b n s) (lv + 1) L op (c + 1) (fun i => if i = c then tkc b n s - 256 + 1 else o i) (fun i => if i = c then 0 else a i) N) else
  if tkc b n s = 300 ∧ tkn b n s ≤ 100000 then (if 50 ≤ lv then MB (tkp b n s) N else v = 3 ∧ ZS b n (tkx b n s) (lv + 1) L op (c + 1) (fun i => if i = c then 0 else o i) (fun i => if i = c then tkn b n s else a i) N) else MB (tkp b n s) N
def PPq (b : Nat → Nat) (n s lv : Nat) (L : pl_T) (op c : Nat) (o a : Nat → Nat) (v : Int32) (N : md_T) : Prop :=
  if tkc b n s = 276 then v = 0 ∧ ZS b n (tkx b n s) lv ((27, 0) :: L) op c o a N else
  if tkc b n s = 40 then (if 8 ≤ op then MB (tkp b n s) N else v = 0 ∧ ZS b n (tkx b n s) lv ((30, 0) :: L) (op + 1) c o a N) else
  if 263 ≤ tkc b n s ∧ tkc b n s < 268 then (if 50 ≤ lv then MB (tkp b n s) N else v = 2 ∧ ZS b n (tkx b n s) (lv + 1) L op (c + 1) (fun i => if i = c then tkc b n s - 256 + 5 else o i) (fun i => if i = c then 0 else a i) N) else RPq b n s lv L op c o a v N
section Tr
variable {b : Nat → Nat} {n s lv op c k d p arg pos q le : Nat} {h t g : ms_S} {M N M0 : md_T} {L P Q : pl_T} {o a : Nat → Nat} {x : Nat × Nat} {S : Nat → Bool} {tst : Int32}
theorem gTn_l {P : Int32 → md_T → Prop} : ∀ r g', gTn h M t P r g' → (ms_m h M t).length ≤ g'.length ∧ ms_tot (ms_m h M t) ≤ ms_tot g' := by
  intro r g' hq
  obtain ⟨N, v, _, e, _⟩ := hq
  rw [e]
  exact ⟨ms_m_l, ms_m_t⟩
theorem tn_c1 {y : Nat} {as : List Value} {R : Int32 → md_T → Prop} {K : Int32 → ms_S → Prop} (hh : ms_H' d y as (ms_m h M t) (gTn h M t R)) (hk : ∀ N v, md_fr gXr M N → R v N → K v (ms_m h N t)) : ms_c1 (ms_Cl d y as (ms_m h M t)) K := by
  obtain ⟨r, g', ⟨N, v, f, e1, e2, hR⟩, hc⟩ := hh
  rw [e1, e2] at hc
  exact ms_c1_i hc (hk N v f hR)
theorem TK_num (hM : ZS b n s lv L op c o a M) (h0 : tkc b n s = 300) : md_i M 11 = 2 ∧ ∃ D, isL (md_l M 12) D ∧ min D 100001 = tkn b n s := by
  obtain ⟨h1, h2, h3⟩ := tok_300 hM.by h0
  obtain ⟨_, hc⟩ := hM.tk
  rcases hc with ⟨z, _⟩ | ⟨_, z, _⟩ | ⟨_, _, _, z4, _, z6⟩ | ⟨_, _, z, _⟩
  · omega
  · rw [z] at h2; cases h2
  · refine ⟨z4, _, z6, ?_⟩
    unfold tkn
    rw [tok_d h1 h2 h3]
    exact dd_nmb _
  · rw [z] at h3; cases h3
theorem TK_not (hM : ZS b n s lv L op c o a M) (h0 : ¬ tkc b n s = 300) : ¬ md_i M 11 = 2 := by
  obtain ⟨_, hc⟩ := hM.tk
  rcases hc with ⟨_, z, _⟩ | ⟨_, _, z, _⟩ | ⟨h1, h2, h3, _⟩ | ⟨_, _, _, z, _⟩
  · rw [z]; decide
  · rw [z]; decide
  · exfalso
    apply h0
    unfold tkc
    rw [tok_d h1 h2 h3]
  · rw [z]; decide
theorem n_readPart (hM : ZS b n s lv L op c o a M) : ms_H' (d + 5) 191 [.ref h.length] (ms_m h M t) (gTn h M t (RPq b n s lv L op c o a)) := by
  have hsn := hM.sn
  have h40 := hM.n4
  refine mx_m (fun a b c => m_X9_readPart a b ⟨_, ms_m_0⟩ c) gTn_l (b_X9_readPart_0 ?_)
  refine ms_sign (v := 91) (d := d + 3) hM (by decide) (by decide) (by decide) (fun z => ms_no (by decide) ?_) (fun z => ms_yes rfl ?_)
  · have gt := tok_gt hsn (show tkc b n s ≠ 301 by omega)
    by_cases h8 : 8 ≤ op
    · refine my_n0 (n_openN (d := d + 2) hM h8) (fun N f hN => ⟨N, 1, f, rfl, rfl, ?_⟩)
      unfold RPq
      rw [if_pos z, if_pos h8]
      exact hN
    · refine my_n0 (n_openY (q := 31) (d := d) hM (Or.inr rfl) (by omega) gt.1) (fun N f hN => ⟨N, 1, f, rfl, rfl, ?_⟩)
      unfold RPq
      rw [if_pos z, if_neg h8]
      exact ⟨rfl, hN⟩
  · refine ms_c1_i (n_partAt (d := d + 2) hM) ?_
    have h45 : ¬ (tkc b n s = 300 ∧ tkn b n s ≤ 100000) → ms_V cd_X9_readPart none 1 (ms_Cl (d + 4)) (gTn h M t (RPq b n s lv L op c o a)) 45 [(0, .ref h.length), (1, .int (if 256 ≤ tkc b n s ∧ tkc b n s < 263 then nI (tkc b n s - 256 + 1) else -1))] [] (ms_m h M t) := by
      intro h3
      refine b_X9_readPart_45 ?_
      by_cases hw : 256 ≤ tkc b n s ∧ tkc b n s < 263
      · have gt := tok_gt hsn (show tkc b n s ≠ 301 by omega)
        rw [if_pos hw]
        have hne : ¬ nI (tkc b n s - 256 + 1) = -1 := fun y => by
          have := congrArg Int32.toInt y
          rw [nI_toInt (by omega)] at this
          have e : (-1 : Int32).toInt = -1 := by decide
          rw [e] at this
          omega
        generalize hV : nI (tkc b n s - 256 + 1) = V at hne ⊢
        refine ms_no hne (ms_no hne (ms_yes rfl ?_))
        rw [← hV]
        by_cases h5 : 50 ≤ lv
        · refine my_n0 (n_lfN (d := d + 2) hM h5) (fun N f hN => ⟨N, 3, f, rfl, rfl, ?_⟩)
          unfold RPq
          rw [if_neg z, if_pos hw, if_pos h5]
          exact hN
        · rw [show (0 : Int32) = nI 0 from rfl]
          refine my_n0 (n_lfY (q := tkc b n s - 256 + 1) (arg := 0) (d := d) hM (by omega) (by decide) (by omega) gt.1) (fun N f hN => ⟨N, 3, f, rfl, rfl, ?_⟩)
          unfold RPq
          rw [if_neg z, if_pos hw, if_neg h5]
          exact ⟨rfl, hN⟩
      · rw [if_neg hw]
        refine ms_yes rfl (ms_yes rfl (ms_yes rfl (ms_yes rfl ?_)))
        refine my_n0 (n_lf0 (d := d + 2) hM) (fun N f hN => ⟨N, 3, f, rfl, rfl, ?_⟩)
        unfold RPq
        rw [if_neg z, if_neg hw, if_neg h3]
        exact hN
    refine ms_oI_i mm_f11 ?_
    by_cases h3 : tkc b n s = 300
    · have gt := tok_gt hsn (show tkc b n s ≠ 301 by omega)
      obtain ⟨e11, D, hD, hm⟩ := TK_num hM h3
      have hD' : (md_l M 12).toInt = (D : Int) := hD
      have e5 : (100000 : Int64).toInt = 100000 := by decide
      refine ms_yes e11 (ms_oL_i mm_f12 ?_)
      by_cases h4 : tkn b n s ≤ 100000
      · have hDn : D = tkn b n s := by omega
        refine ms_no (fun y => ?_) ?_
        · have := Int64.lt_iff_toInt_lt.mp ((lg_cmp_gt _ _).mp y)
          rw [e5, hD'] at this
          omega
        · rw [if_neg (show ¬ (256 ≤ tkc b n s ∧ tkc b n s < 263) by omega)]
          refine ms_yes rfl (ms_no (by decide) (ms_yes rfl (ms_no (by decide) (ms_oL_i mm_f12 ?_))))
          have e32 : Int64.toInt32 (md_l M 12) = nI (tkn b n s) := by
            apply Int32.toInt_inj.mp
            rw [Int64.toInt_toInt32, nI_toInt (by omega), hD', hDn, Int.bmod_eq_of_le (by omega) (by omega)]
          rw [e32]
          by_cases h5 : 50 ≤ lv
          · refine my_n0 (n_lfN (d := d + 2) hM h5) (fun N f hN => ⟨N, 3, f, rfl, rfl, ?_⟩)
            unfold RPq
            rw [if_neg z, if_neg (by omega), if_pos ⟨h3, h4⟩, if_pos h5]
            exact hN
          · rw [show (0 : Int32) = nI 0 from rfl]
            refine my_n0 (n_lfY (q := 0) (arg := tkn b n s) (d := d) hM (by decide) (by omega) (by omega) gt.1) (fun N f hN => ⟨N, 3, f, rfl, rfl, ?_⟩)
            unfold RPq
            rw [if_neg z, if_neg (by omega), if_pos ⟨h3, h4⟩, if_neg h5]
            exact ⟨rfl, hN⟩
      · refine ms_yes ((lg_cmp_gt _ _).mpr (Int64.lt_iff_toInt_lt.mpr ?_)) (h45 (fun y => h4 y.2))
        rw [e5, hD']
        omega
    · exact ms_no (TK_not hM h3) (h45 (fun y => h3 y.1))
/-- pushed, and the next token -/
theorem ms_pn (hM : ZS b n s lv L op c o a M) (hq : 20 ≤ q ∧ q < 32) (hpos : pos < 400) (hb : c + (L.length + 1) ≤ tkx b n s) {K : ms_S → Prop} (hk : ∀ N, md_fr gXr M N → ZS b n (tkx b n s) lv ((q, pos) :: L) op c o a N → K (ms_m h N t)) : ms_c0 (ms_Cl (d + 3) 182 [.ref h.length, .int (nI q), .int (nI pos)] (ms_m h M t)) fun g1 => ms_c0 (ms_Cl (d + 3) 176 [.ref h.length] g1) K := by
  have h40 := hM.n4
  obtain ⟨h1, h2, h3, h4, h5, h6, h7, h8, h9, h10⟩ := hM
  have hx := (tok_nx (b := b) h3).1
  have hx : tkx b n s ≤ n := hx
  have hP := pu_MP (M := M) (op := q) (pos := pos) h10 (by omega) hq hpos
  refine ms_c0_i (n_push (d := d + 2) h10 (by omega)) ?_
  have T1 : TP (puM M L.length q pos) b n := TP_eq h1 (pu_i (by decide)) (fun k => by unfold puM; rw [md_a_ui, md_a_ua, if_neg (show ¬ (7 = 22 ∧ k = L.length) by omega), md_a_ua, if_neg (show ¬ (7 = 21 ∧ k = L.length) by omega)])
  have K1 : TK b n s (puM M L.length q pos) := TK_eq h2 (pu_i (by decide)) (pu_i (by decide)) (pu_i (by decide)) rfl
  have f1 : md_fr gXr M (puM M L.length q pos) := pu_fr mr_0 rfl rfl rfl
  have i14 : md_i (puM M L.length q pos) 14 = 0 ∧ md_i (puM M L.length q pos) 13 = -1 := ⟨by rw [pu_i (by decide)]; exact h4.1, by rw [pu_i (by decide)]; exact h4.2⟩
  have i20 : md_i (puM M L.length q pos) 20 = nI lv := by rw [pu_i (by decide)]; exact h5
  have i24 : md_i (puM M L.length q pos) 24 = nI op := by rw [pu_i (by decide)]; exact h7
  generalize puM M L.length q pos = M1 at hP T1 K1 f1 i14 i20 i24 ⊢
  refine my_n0 (n_next (d := d + 1) T1 (TK_at K1).2 hx) (fun N f hK => hk N (mr_t f1 (gX_12 f)) ?_)
  exact ⟨TP_eq T1 (f 8 rfl).1 (f 7 rfl).2.2.1, hK, hx, ⟨by rw [(f 14 rfl).1]; exact i14.1, by rw [(f 13 rfl).1]; exact i14.2⟩, by rw [(f 20 rfl).1]; exact i20, h6, by rw [(f 24 rfl).1]; exact i24, h8, hb, MP_fr hP f rfl rfl rfl rfl rfl rfl⟩
/-- pushed, told, and the next token -/
theorem ms_pen (hM : ZS b n s lv L op c o a M) (hq : 20 ≤ q ∧ q < 30) (hb : c + 1 + (L.length + 1) ≤ tkx b n s) {K : ms_S → Prop} (hk : ∀ N, md_fr gXr M N → ZS b n (tkx b n s) lv ((q, c) :: L) op (c + 1) (fun i => if i = c then q else o i) (fun i => if i = c then 0 else a i) N → K (ms_m h N t)) : ms_c0 (ms_Cl (d + 3) 182 [.ref h.length, .int (nI q), .int (nI c)] (ms_m h M t)) fun g1 => ms_c0 (ms_Cl (d + 3) 181 [.ref h.length, .int (nI q), .int (nI 0)] g1) fun g2 => ms_c0 (ms_Cl (d + 3) 176 [.ref h.length] g2) K := by
  have h40 := hM.n4
  obtain ⟨h1, h2, h3, h4, h5, h6, h7, h8, h9, h10⟩ := hM
  have hx := (tok_nx (b := b) h3).1
  have hx : tkx b n s ≤ n := hx
  have hP := pu_MP (M := M) (op := q) (pos := c) h10 (by omega) ⟨hq.1, by omega⟩ (by omega)
  refine ms_c0_i (n_push (d := d + 2) h10 (by omega)) ?_
  have T1 : TP (puM M L.length q c) b n := TP_eq h1 (pu_i (by decide)) (fun k => by unfold puM; rw [md_a_ui, md_a_ua, if_neg (show ¬ (7 = 22 ∧ k = L.length) by omega), md_a_ua, if_neg (show ¬ (7 = 21 ∧ k = L.length) by omega)])
  have K1 : TK b n s (puM M L.length q c) := TK_eq h2 (pu_i (by decide)) (pu_i (by decide)) (pu_i (by decide)) rfl
  have f1 : md_fr gXr M (puM M L.length q c) := pu_fr mr_0 rfl rfl rfl
  have i14 : md_i (puM M L.length q c) 14 = 0 ∧ md_i (puM M L.length q c) 13 = -1 := ⟨by rw [pu_i (by decide)]; exact h4.1, by rw [pu_i (by decide)]; exact h4.2⟩
  have i20 : md_i (puM M L.length q c) 20 = nI lv := by rw [pu_i (by decide)]; exact h5
  have i24 : md_i (puM M L.length q c) 24 = nI op := by rw [pu_i (by decide)]; exact h7
  generalize puM M L.length q c = M1 at hP T1 K1 f1 i14 i20 i24 ⊢
  refine ms_c0_i (n_emit (d := d + 2) hP (by omega)) ?_
  have hP2 := em_MP (M := M1) (op := q) (arg := 0) hP (by rw [List.length_cons]; omega) hq.2 (by decide)
  have T2 : TP (emM M1 c q 0) b n := TP_eq T1 (emM_i (by decide)) (fun k => by unfold emM; rw [md_a_ui, md_a_ua, if_neg (show ¬ (7 = 19 ∧ k = c) by omega), md_a_ua, if_neg (show ¬ (7 = 18 ∧ k = c) by omega)])
  have K2 : TK b n s (emM M1 c q 0) := TK_eq K1 (emM_i (by decide)) (emM_i (by decide)) (emM_i (by decide)) rfl
  have f2 : md_fr gXr M (emM M1 c q 0) := em_fr f1 rfl rfl rfl
  have j14 : md_i (emM M1 c q 0) 14 = 0 ∧ md_i (emM M1 c q 0) 13 = -1 := ⟨by rw [emM_i (by decide)]; exact i14.1, by rw [emM_i (by decide)]; exact i14.2⟩
  have j20 : md_i (emM M1 c q 0) 20 = nI lv := by rw [emM_i (by decide)]; exact i20
  have j24 : md_i (emM M1 c q 0) 24 = nI op := by rw [emM_i (by decide)]; exact i24
  generalize emM M1 c q 0 = M2 at hP2 T2 K2 f2 j14 j20 j24 ⊢
  refine my_n0 (n_next (d := d + 1) T2 (TK_at K2).2 hx) (fun N f hK => hk N (mr_t f2 (gX_12 f)) ?_)
  exact ⟨TP_eq T2 (f 8 rfl).1 (f 7 rfl).2.2.1, hK, hx, ⟨by rw [(f 14 rfl).1]; exact j14.1, by rw [(f 13 rfl).1]; exact j14.2⟩, by rw [(f 20 rfl).1]; exact j20, h6, by rw [(f 24 rfl).1]; exact j24, h8, hb, MP_fr hP2 f rfl rfl rfl rfl rfl rfl⟩
theorem n_readPlain (hM : ZS b n s lv L op c o a M) : ms_H' (d + 6) 192 [.ref h.length] (ms_m h M t) (gTn h M t (PPq b n s lv L op c o a)) := by
  have hsn := hM.sn
  have h40 := hM.n4
  have hcs := hM.cs
  refine mx_m (fun a b c => m_X9_readPlain a b ⟨_, ms_m_0⟩ c) gTn_l (b_X9_readPlain_0 ?_)
  refine ms_word (k := 20) (d := d + 4) hM (by decide) rfl (by unfold isL; decide) (fun z => ms_no (by decide) ?_) (fun z => ms_yes rfl ?_)
  · have z : tkc b n s = 276 := z
    have gt := tok_gt hsn (show tkc b n s ≠ 301 by omega)
    rw [show (27 : Int32) = nI 27 from rfl, show (0 : Int32) = nI 0 from rfl]
    refine ms_pn (d := d + 2) hM (by decide) (by decide) (by omega) (fun N f hN => ⟨N, nI 0, f, rfl, rfl, ?_⟩)
    unfold PPq
    rw [if_pos z]
    exact ⟨rfl, hN⟩
  · have z : ¬ tkc b n s = 276 := z
    refine ms_sign (v := 40) (d := d + 4) hM (by decide) (by decide) (by decide) (fun z2 => ms_no (by decide) ?_) (fun z2 => ms_yes rfl ?_)
    · have gt := tok_gt hsn (show tkc b n s ≠ 301 by omega)
      by_cases h8 : 8 ≤ op
      · refine my_n0 (n_openN (d := d + 3) hM h8) (fun N f hN => ⟨N, 0, f, rfl, rfl, ?_⟩)
        unfold PPq
        rw [if_neg z, if_pos z2, if_pos h8]
        exact hN
      · refine my_n0 (n_openY (q := 30) (d := d + 1) hM (Or.inl rfl) (by omega) gt.1) (fun N f hN => ⟨N, 0, f, rfl, rfl, ?_⟩)
        unfold PPq
        rw [if_neg z, if_pos z2, if_neg h8]
        exact ⟨rfl, hN⟩
    · refine ms_c1_i (n_plainAt (d := d + 3) hM) ?_
      by_cases hw : 263 ≤ tkc b n s ∧ tkc b n s < 268
      · have gt := tok_gt hsn (show tkc b n s ≠ 301 by omega)
        rw [if_pos hw]
        have hne : ¬ nI (tkc b n s - 256 + 5) = -1 := fun y => by
          have := congrArg Int32.toInt y
          rw [nI_toInt (by omega)] at this
          have e : (-1 : Int32).toInt = -1 := by decide
          rw [e] at this
          omega
        generalize hV : nI (tkc b n s - 256 + 5) = V at hne ⊢
        refine ms_no hne ?_
        rw [← hV]
        by_cases h5 : 50 ≤ lv
        · refine my_n0 (n_lfN (d := d + 3) hM h5) (fun N f hN => ⟨N, 2, f, rfl, rfl, ?_⟩)
          unfold PPq
          rw [if_neg z, if_neg z2, if_pos hw, if_pos h5]
          exact hN
        · rw [show (0 : Int32) = nI 0 from rfl]
          refine my_n0 (n_lfY (q := tkc b n s - 256 + 5) (arg := 0) (d := d + 1) hM (by omega) (by decide) (by omega) gt.1) (fun N f hN => ⟨N, 2, f, rfl, rfl, ?_⟩)
          unfold PPq
          rw [if_neg z, if_neg z2, if_pos hw, if_neg h5]
          exact ⟨rfl, hN⟩
      · rw [if_neg hw]
        refine ms_yes rfl (tn_c1 (n_readPart (d := d) hM) (fun N v f hN => ⟨N, v, f, rfl, rfl, ?_⟩))
        unfold PPq
        rw [if_neg z, if_neg z2, if_neg hw]
        exact hN
end Tr
