/-! THE MODEL WORKS CODE OUT: reckonAll, isSo, find; written by wip/whole/mdl.py from zrk.txt -/
section Zrk
variable {d i n k stop : Nat} {h t : ms_S} {M : md_T} {b : Int32} {q : Nat → Int64} {o a : Nat → Nat} {env : Nat → Int32}
theorem z_stk_bot {x : Int64} {l : List Int64} (h : stk q (x :: l)) : q 0 = z_bot (x :: l) := by
  rw [stk_bot h]
  unfold w_bot z_bot
  rw [List.getLast?_cons]
  rfl
theorem stk_hd {x : Int64} {l : List Int64} (h : stk q (x :: l)) : q l.length = x ∧ stk q l := h
theorem vp_updL_at {n : Nat} {x : Int64} : vp_updL q n x n = x := by
  unfold vp_updL
  exact if_pos rfl
theorem stk_set {x y : Int64} {l : List Int64} (h : stk q (x :: l)) : stk (vp_updL q l.length y) (y :: l) := stk_push (stk_hd h).2
theorem nI_dec {l : Nat} : nI (l + 1) + (-1) = nI l := by
  rw [show nI (l + 1) + (-1) = nI (l + 1) - 1 from (Int32.sub_eq_add_neg _ _).symm, ms_nI_m1]
theorem c9_zloop (ht : mt_w (md_a M 3) i n o a) (hs : stop ≤ n) (hi : i < 20) (he : ∀ j, j < 17 → md_q M 25 j = z_env env j) : ∀ (F k : Nat) (l : List Int64) (q : Nat → Int64) (res : Option (List Int64)), z_run o a env stop F k l = some res → k < 2 ^ 31 → l.length ≤ 400 → stk q l → ms_V cd_X9_reckonAll none 0 (ms_Cl (d + 1)) (z_R h M t res) 11 [(0, .ref h.length), (1, .int (nI i)), (3, .int (nI stop)), (4, .int (nI l.length)), (5, .int (nI k))] [] (ms_m h (zM M 0 q) t) := by
  have hn := ht.1
  intro F
  induction F with
  | zero => intro k l q res hr; cases hr
  | succ F ih =>
    intro k l q res hr hk hl hq
    unfold z_run at hr
    refine b_X9_reckonAll_11 ?_
    by_cases hsk : stop ≤ k
    · rw [if_pos hsk] at hr
      cases hr
      refine ms_yes ((ms_nle (by omega) hk).mpr hsk) ?_
      cases l with
      | nil =>
        refine ms_yes (by decide) ?_
        simp only [ms_oR_e, ms_oI_e, ms_oL_e, mm_f28, mm_p28]
        exact ⟨0, q, 0, rfl, rfl, rfl, rfl⟩
      | cons x l =>
        refine ms_no ?_ ?_
        · rw [show (0 : Int32) = nI 0 from rfl, ms_nle (by rw [List.length_cons] at hl ⊢; omega) (by decide), List.length_cons]
          omega
        simp only [ms_oR_e, ms_oI_e, ms_oL_e, mm_f26, mm_r26, mm_w26, mm_f28, mm_p28]
        refine ⟨(by unfold vp_in; decide), 0, q, _, rfl, rfl, rfl, ?_⟩
        rw [zM_q]
        exact z_stk_bot hq
    · rw [if_neg hsk] at hr
      refine ms_no (mt (ms_nle (by omega) hk).mp hsk) ?_
      obtain ⟨r1, r2, r3, r4⟩ := ht.2 k (by omega)
      simp only [ms_oR_e, ms_oI_e, ms_oL_e, mm_f3, mm_r3, mm_w3, mm_f27, mm_p27, zM_b]
      refine ms_yes trivial ?_
      refine ms_c1_i c9_textAt ?_
      simp only [ms_oR_e, ms_oI_e, ms_oL_e, mm_f3, mm_r3, mm_w3]
      rw [ix_tx]
      refine ⟨ms_in (by omega) (by decide), ?_⟩
      refine ms_c1_i c9_textAt ?_
      rw [ix_tx, show nI (946 + 898 * i + 98 + 2 * k) + 1 = nI (946 + 898 * i + 98 + 2 * k + 1) from ms_p1 1]
      simp only [ms_oR_e, ms_oI_e, ms_oL_e, mm_f3, mm_r3, mm_w3]
      refine ⟨ms_in (by omega) (by decide), ?_⟩
      rw [ms_nc (by omega), ms_nc (by omega), zM_a, r1, r2]
      have e1 : nI k + 1 = nI (k + 1) := ms_p1 1
      rw [e1]
      have c : ∀ m : Nat, m < 2 ^ 31 → ((nI (o k) = nI m) ↔ o k = m) := fun m hm => Iff.of_eq (ms_nI_eq (by omega) hm)
      have cl : ∀ m : Nat, m < 2 ^ 31 → ((nI m ≤ nI (o k)) ↔ m ≤ o k) := fun m hm => ms_nle hm (by omega)
      unfold z_st at hr
      by_cases h20 : o k < 20
      · rw [if_pos h20] at hr
        by_cases hg : l.length < 400 ∧ o k < 17
        · rw [if_pos hg] at hr
          simp only at hr
          refine ms_no (fun z => by have := (cl 20 (by decide)).mp z; omega) ?_
          simp only [ms_oR_e, ms_oI_e, ms_oL_e, mm_f25, mm_r25, mm_w25, mm_f26, mm_r26, mm_w26]
          have hstep : ∀ x : Int64, z_run o a env stop F (k + 1) (x :: l) = some res → ms_V cd_X9_reckonAll none 0 (ms_Cl (d + 1)) (z_R h M t res) 11 [(0, .ref h.length), (1, .int (nI i)), (3, .int (nI stop)), (4, .int (nI l.length + 1)), (5, .int (nI (k + 1)))] [] (ms_m h (zM M 0 (vp_updL q l.length x)) t) := by
            intro x hx
            rw [show nI l.length + 1 = nI (x :: l).length from ms_p1 1]
            exact ih (k + 1) (x :: l) _ res hx (by omega) (by rw [List.length_cons]; omega) (stk_push hq)
          by_cases h0 : o k = 0
          · refine ms_yes ((c 0 (by decide)).mpr h0) ?_
            refine ⟨ms_in hg.1 (by decide), ?_⟩
            rw [ms_nc (by omega), zM_uq]
            rw [if_pos h0] at hr
            exact hstep _ hr
          · refine ms_no (mt (c 0 (by decide)).mp h0) ?_
            refine ⟨ms_in hg.2 (by decide), ms_in hg.1 (by decide), ?_⟩
            rw [ms_nc (by omega), ms_nc (by omega), zM_uq, zM_25, he _ hg.2]
            rw [if_neg h0] at hr
            exact hstep _ hr
        · rw [if_neg hg] at hr
          cases hr
      · rw [if_neg h20] at hr
        refine ms_yes ((cl 20 (by decide)).mpr (by omega)) ?_
        cases l with
        | nil => cases hr
        | cons x l1 =>
          obtain ⟨hq1, hq2⟩ := stk_hd hq
          rw [List.length_cons] at hl
          rw [List.length_cons]
          simp only at hr
          by_cases h27 : 27 < o k
          · rw [if_pos h27] at hr
            refine ms_yes ((cl 27 (by decide)).mpr (by omega)) (ms_no (fun z => by have := (c 27 (by decide)).mp z; omega) ?_)
            simp only [ms_oR_e, ms_oI_e, ms_oL_e, mm_f26, mm_r26, mm_w26]
            rw [ms_nI_m1]
            refine ⟨ms_in (by omega) (by decide), ?_⟩
            rw [ms_nc (by omega), zM_q, hq1]
            have hpop : z_run o a env stop F (k + 1) l1 = some res → ms_V cd_X9_reckonAll none 0 (ms_Cl (d + 1)) (z_R h M t res) 11 [(0, .ref h.length), (1, .int (nI i)), (3, .int (nI stop)), (4, .int (nI (l1.length + 1) + (-1))), (5, .int (nI (k + 1)))] [] (ms_m h (zM M 0 q) t) := by
              intro hx
              rw [nI_dec]
              exact ih (k + 1) l1 _ res hx (by omega) (by omega) hq2
            have hjmp : z_run o a env stop F (a k) (x :: l1) = some res → ms_V cd_X9_reckonAll none 0 (ms_Cl (d + 1)) (z_R h M t res) 11 [(0, .ref h.length), (1, .int (nI i)), (3, .int (nI stop)), (4, .int (nI (l1.length + 1))), (5, .int (nI (a k)))] [] (ms_m h (zM M 0 q) t) := fun hx => ih (a k) (x :: l1) _ res hx (by omega) (by rw [List.length_cons]; omega) hq
            by_cases h28 : o k = 28
            · rw [if_pos h28] at hr
              refine ms_yes ((c 28 (by decide)).mpr h28) ?_
              by_cases hx : x = 0
              · rw [if_pos hx] at hr
                exact ms_yes ((lg_cmp_eq _ _).mpr hx) (hjmp hr)
              · rw [if_neg hx] at hr
                exact ms_no (mt (lg_cmp_eq _ _).mp hx) (hpop hr)
            · rw [if_neg h28] at hr
              refine ms_no (mt (c 28 (by decide)).mp h28) ?_
              by_cases hx : x = 1
              · rw [if_pos hx] at hr
                exact ms_yes ((lg_cmp_eq _ _).mpr hx) (hjmp hr)
              · rw [if_neg hx] at hr
                exact ms_no (mt (lg_cmp_eq _ _).mp hx) (hpop hr)
          · rw [if_neg h27] at hr
            by_cases h27e : o k = 27
            · rw [if_pos h27e] at hr
              refine ms_yes ((cl 27 (by decide)).mpr (by omega)) (ms_yes ((c 27 (by decide)).mpr h27e) ?_)
              simp only [ms_oR_e, ms_oI_e, ms_oL_e, mm_f26, mm_r26, mm_w26]
              rw [ms_nI_m1]
              refine ⟨ms_in (by omega) (by decide), ms_in (by omega) (by decide), ?_⟩
              rw [ms_nc (by omega), zM_q, hq1, zM_uq]
              exact ih (k + 1) ((1 - x) :: l1) _ res hr (by omega) (by rw [List.length_cons]; omega) (stk_set hq)
            · rw [if_neg h27e] at hr
              refine ms_no (fun z => by have := (cl 27 (by decide)).mp z; omega) ?_
              cases l1 with
              | nil => cases hr
              | cons y l2 =>
                obtain ⟨hq3, hq4⟩ := stk_hd hq2
                rw [List.length_cons] at hl hq1
                rw [List.length_cons]
                simp only at hr
                have ho : 20 ≤ o k ∧ o k < 27 := by omega
                simp only [ms_oR_e, ms_oI_e, ms_oL_e, mm_f26, mm_r26, mm_w26]
                rw [nI_dec, ms_nI_m1]
                refine ⟨ms_in (by omega) (by decide), ms_in (by omega) (by decide), ?_⟩
                rw [ms_nc (by omega), ms_nc (by omega), zM_q, hq1, hq3]
                refine ms_c2_i (c9_reckon ho) ?_
                rw [z_jn_v ho] at hr
                simp only [ms_oR_e, ms_oI_e, ms_oL_e, mm_f26, mm_r26, mm_w26, mm_f27, mm_p27]
                refine ⟨ms_in (by omega) (by decide), ?_⟩
                rw [ms_nc (by omega), zM_uq]
                simp only [zM_b]
                have hbr : res = none → ∀ q', ms_V cd_X9_reckonAll none 0 (ms_Cl (d + 1)) (z_R h M t res) 11 [(0, .ref h.length), (1, .int (nI i)), (3, .int (nI stop)), (4, .int (nI (l2.length + 1))), (5, .int (nI (k + 1)))] [] (ms_m h (zM M 1 q') t) := by
                  intro hres q'
                  subst hres
                  have hfin : ms_oR (ms_fldR (ms_m h (zM M 1 q') t) h.length 9 26) fun x42 => ms_rL (ms_m h (zM M 1 q') t) x42 0 fun x43 => ms_wF (ms_m h (zM M 1 q') t) h.length 9 28 (.long x43) fun g44 => z_R h M t none none g44 := by
                    simp only [ms_oR_e, ms_oI_e, ms_oL_e, mm_f26, mm_r26, mm_w26, mm_f28, mm_p28]
                    exact ⟨(by unfold vp_in; decide), 1, q', _, rfl, rfl, rfl⟩
                  have hl2 : ¬ nI (l2.length + 1) ≤ 0 := by
                    rw [show (0 : Int32) = nI 0 from rfl, ms_nle (by omega) (by decide)]
                    omega
                  refine b_X9_reckonAll_11 (ms_ite2 (fun _ => ms_no hl2 hfin) (fun _ => ?_))
                  simp only [ms_oR_e, ms_oI_e, ms_oL_e, mm_f27, mm_p27, zM_b]
                  exact ms_no (by decide) (ms_no hl2 hfin)
                by_cases hz : o k = 23 ∧ x = 0
                · rw [if_pos hz] at hr
                  simp only [if_pos hz]
                  cases hr
                  refine ms_no (by decide) ?_
                  rw [zM_ui]
                  exact ⟨Or.inr trivial, hbr rfl _⟩
                · rw [if_neg hz] at hr
                  simp only [if_neg hz]
                  refine ms_yes trivial ?_
                  refine ⟨ms_in (by omega) (by decide), ?_⟩
                  rw [zM_q, vp_updL_at]
                  refine ms_c1_i c9_in ?_
                  simp only [ms_oR_e, ms_oI_e, ms_oL_e, mm_f27, mm_p27, zM_ui]
                  by_cases hb1 : 1000000000 < z_v (o k) y x
                  · rw [if_pos hb1] at hr
                    cases hr
                    rw [decide_eq_false (Int64.not_le.mpr hb1), Bool.and_false]
                    refine ms_yes rfl ?_
                    exact ⟨Or.inr trivial, hbr rfl _⟩
                  · rw [if_neg hb1] at hr
                    by_cases hb2 : z_v (o k) y x < -1000000000
                    · rw [if_pos hb2] at hr
                      cases hr
                      rw [decide_eq_false (Int64.not_le.mpr hb2), Bool.false_and]
                      refine ms_yes rfl ?_
                      exact ⟨Or.inr trivial, hbr rfl _⟩
                    · rw [if_neg hb2] at hr
                      simp only at hr
                      rw [decide_eq_true (Int64.not_lt.mp hb1), decide_eq_true (Int64.not_lt.mp hb2)]
                      refine ms_no (by decide) ?_
                      refine ⟨Or.inl trivial, ?_⟩
                      exact ih (k + 1) (_ :: l2) _ res hr (by omega) (by rw [List.length_cons]; omega) (stk_push hq4)
end Zrk
