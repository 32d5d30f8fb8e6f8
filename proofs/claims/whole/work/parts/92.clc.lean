/-! THE CLASS'S CALLS: tree, births, drift, weight, run; written by wip/whole/mdl.py from clc.txt -/
section Clc
variable {d b i j k n p o e f u v x y s r c L day : Nat} {X Y Z : cx_T} {t : ms_S} {A : ab_T} {S : List Nat} {K : Int32 → ms_S → Prop} {q w : Int32}
theorem mr_th {e g a c : Nat} (h : ab_en A e 1 = ab_en A g 1) : ab_mr A e a c = ab_mr A g a c := by unfold ab_mr; rw [h]
theorem k_treePart (h : CX A 6 X t) (hO : OR A 24 day X) (he : e < ab_e A) (hes : ab_es A e day = true) (hw : n = 1 ∨ n = 2 ∨ n = 3 ∨ n = 4 ∨ n = 5) : ms_Cl (d + 5) 118 [.ref 0, .int (nI e), .int (nI n)] (ms_x X t) (some (.int (nI (ab_tp A day n e)))) (ms_x X t) := by
  have ht := (h.w.2.2.2.2.1 e he).2
  have hw1 := h.w.1.2.2.1
  refine m_X8_treePart (Nat.le_refl _) (Nat.le_refl _) ⟨_, xo_0⟩ (b_X8_treePart_0 (Q := ms_lf _ _) (ms_oR_i xf_0_5 (ms_c1_i (k_originOf h LO_24 he) ?_)))
  rw [hO e he hes]
  unfold ab_tp
  rw [if_pos hes]
  have hin : ∀ f, ab_or A e day = some f → f < ab_e A ∧ ab_en A f 1 = ab_en A e 1 := fun f hf => ⟨(ab_or_in he hf).1, (ab_or_in he hf).2.1⟩
  cases ho : ab_or A e day with
  | none =>
    refine ms_yes rfl (ms_oR_i xf_0_2 (ms_oR_i xf_0_2 (ms_c1_i (k_thingOf h he) (ms_c1_i (k_isGhost h ht) ?_))))
    cases hg : ab_gh A (ab_en A e 1) with
    | true =>
      rcases hw with rfl | rfl | rfl | rfl | rfl
      · exact ms_yes rfl (ms_yes rfl (ms_no (by decide) ⟨rfl, rfl⟩))
      · exact ms_no (by decide) (ms_yes rfl (ms_yes rfl ⟨rfl, rfl⟩))
      · exact ms_no (by decide) (ms_no (by decide) (ms_yes rfl (ms_yes rfl (ms_no (by decide) ⟨rfl, rfl⟩))))
      · exact ms_no (by decide) (ms_no (by decide) (ms_no (by decide) (ms_yes rfl (ms_yes rfl ⟨rfl, rfl⟩))))
      · exact ms_no (by decide) (ms_no (by decide) (ms_no (by decide) (ms_no (by decide) (ms_yes rfl ⟨rfl, rfl⟩))))
    | false =>
      rcases hw with rfl | rfl | rfl | rfl | rfl
      · exact ms_yes rfl (ms_yes rfl (ms_yes rfl ⟨rfl, rfl⟩))
      · exact ms_no (by decide) (ms_yes rfl (ms_yes rfl ⟨rfl, rfl⟩))
      · exact ms_no (by decide) (ms_no (by decide) (ms_yes rfl (ms_yes rfl (ms_yes rfl ⟨rfl, rfl⟩))))
      · exact ms_no (by decide) (ms_no (by decide) (ms_no (by decide) (ms_yes rfl (ms_yes rfl ⟨rfl, rfl⟩))))
      · exact ms_no (by decide) (ms_no (by decide) (ms_no (by decide) (ms_no (by decide) (ms_yes rfl ⟨rfl, rfl⟩))))
  | some f =>
    obtain ⟨hf, hft⟩ := hin f ho
    refine ms_no (nI_m1 (x := f) (by omega)) (ms_oR_i xf_0_2 (ms_oR_i xf_0_2 (ms_c1_i (k_thingOf h he) (ms_c1_i (k_isGhost h ht) ?_))))
    rcases hw with rfl | rfl | rfl | rfl | rfl
    · exact ms_yes rfl (ms_no (by decide) ⟨rfl, rfl⟩)
    · exact ms_no (by decide) (ms_yes rfl (ms_no (by decide) ⟨rfl, rfl⟩))
    · exact ms_no (by decide) (ms_no (by decide) (ms_yes rfl (ms_no (by decide) ⟨rfl, rfl⟩)))
    · exact ms_no (by decide) (ms_no (by decide) (ms_no (by decide) (ms_yes rfl (ms_no (by decide) (ms_oR_i xf_0_2 (ms_c1_i (k_made h hf he) ⟨rfl, rfl⟩))))))
    · refine ms_no (by decide) (ms_no (by decide) (ms_no (by decide) (ms_no (by decide) (ms_no (by decide) (ms_oR_i xf_0_2 (ms_c1_i (k_made h he hf) ⟨?_, rfl⟩))))))
      rw [mr_th hft]
      rfl
theorem all_SE {Y : cx_T} (h : ∀ p, 0 ≤ p → p < ab_p A → ab_s A p day = true → SE A 24 Y p (sbits A p day)) : ∀ p, p < ab_p A → ab_s A p day = true → SE A 24 Y p (sbits A p day) := fun p => h p (Nat.zero_le p)
theorem all_sum {Y : cx_T} (h : ∀ p, 0 ≤ p → p < ab_p A → ab_s A p day = true → SE A 24 Y p (sbits A p day)) : ∀ p, p < ab_p A → ab_s A p day = true → cx_a Y 28 p = nI (lb A p (ab_src A p day)).1 := fun p hp hs => by
  have k := (h p (Nat.zero_le p) hp hs).2.1
  rw [sb_sl] at k
  exact k
theorem k_tree (h : CX A 6 X t) (hC : LC A 24 X) : ms_H' (d + 8) 117 [.ref 0, .int q, .int w] (ms_x X t) (fX A X t (an_tree A q w)) := by
  refine mx_m (fun a b c => m_X8_tree a b ⟨_, xo_0⟩ c) fV_l (b_X8_tree_0 (ms_c1_i (k_within 99 (by decide)) ?_))
  unfold an_tree
  refine ms_ifT (fun hg => ?_) (fun hg => ?_)
  · rw [hg]
    exact fX_0 hC
  rw [hg, Bool.true_and]
  refine ms_c1_i (k_within 5 (by decide)) (ms_ifT (fun hw => ?_) (fun hw => ?_))
  · rw [hw]
    exact fX_0 hC
  obtain ⟨j, hj, rfl, e2, _⟩ := ms_ix_k hg
  obtain ⟨n, hn, rfl, f2, _⟩ := ms_ix_k hw
  rw [hw, e2, f2, if_pos rfl]
  have hw1 := h.w.1
  refine ms_oR_i xf_0_5 (ms_oR_i xf_0_2 (ms_oI_i (k_pc h) (mx_n0 (k_sett (i := 0) h hC (Nat.zero_le _) (Nat.le_refl _) (by omega)) (fun Y fy ⟨hc, hse⟩ => ?_))))
  have hY := h.fr fy
  refine ms_ite2 (fun z => ?_) (fun z => ?_)
  · rw [if_pos z]
    exact ms_oR_i xf_0_5 (ms_c1_i (k_sumOfAll hY LO_24 (by omega) (all_sum hse)) ⟨Y, _, fy, rfl, rfl, rfl, hc⟩)
  · rw [if_neg z]
    have hn0 : n ≠ 0 := fun z2 => z (by rw [z2]; rfl)
    have hO := SE_or (all_SE hse) h.w
    suffices H : ∀ r e, e + r = ab_e A → ms_V cd_X8_tree none 1 (ms_Cl (d + 7)) (fX A X t (nI (sm (ab_tp A j n) (ab_e A)))) 53 [(0, .ref 0), (1, .int (nI j)), (2, .int (nI n)), (3, .int (nI (sm (ab_tp A j n) e))), (4, .int (nI e))] [] (ms_x Y t) from H (ab_e A) 0 (by omega)
    intro r
    induction r with
    | zero =>
      intro e he
      refine b_X8_tree_53 (ms_oR_i xf_0_2 (ms_oI_i (k_ec hY) ?_))
      refine ms_yes ((ms_nle (by omega) (by omega)).mpr (by omega)) ⟨Y, _, fy, rfl, rfl, ?_, hc⟩
      rw [show ab_e A = e by omega]
    | succ r ih =>
      intro e he
      have hp := (h.w.2.2.2.2.1 e (by omega)).1
      refine b_X8_tree_53 (ms_oR_i xf_0_2 (ms_oI_i (k_ec hY) ?_))
      refine ms_no (fun z => by rw [ms_nle (by omega) (by omega)] at z; omega) (ms_oR_i xf_0_2 (ms_oR_i xf_0_2 (ms_c1_i (k_paperOf hY (by omega)) (ms_c1_i (k_isSeen hY (by omega) (by omega)) ?_))))
      have H := ih (e + 1) (by omega)
      rw [show sm (ab_tp A j n) (e + 1) = sm (ab_tp A j n) e + ab_tp A j n e from rfl] at H
      rw [show nI e + 1 = nI (e + 1) from ms_p1 1]
      refine ms_ifT (fun hg => ?_) (fun hg => ?_)
      · have hz : ab_tp A j n e = 0 := by
          unfold ab_tp
          rw [if_neg (by rw [show ab_es A e j = false from hg]; decide)]
        rw [hz] at H
        exact H
      · refine ms_c1_i (k_treePart hY hO (by omega) hg (by omega)) ?_
        rw [ms_p1]
        exact H
theorem k_births (h : CX A 6 X t) (hC : LC A 24 X) {i k : Int32} : ms_H' (d + 8) 120 [.ref 0, .int i, .int q, .int k] (ms_x X t) (fX A X t (an_births A i q k)) := by
  refine mx_m (fun a b c => m_X8_births a b ⟨_, xo_0⟩ c) fV_l (b_X8_births_0 (ms_oR_i xf_0_2 (ms_c1_i (k_isGhostI h) ?_)))
  unfold an_births
  refine ms_ifT (fun hg => ?_) (fun hg => ?_)
  · rw [hg]
    exact fX_0 hC
  rw [hg, Bool.true_and]
  refine ms_c1_i (k_within 99 (by decide)) (ms_ifT (fun hw => ?_) (fun hw => ?_))
  · rw [hw]
    exact fX_0 hC
  rw [Bool.and_eq_true] at hg
  obtain ⟨m, hm, rfl, e2, _⟩ := ms_ix_k hg.1
  obtain ⟨j, hj, rfl, f2, _⟩ := ms_ix_k hw
  rw [hw, e2, f2, if_pos rfl]
  have hw1 := h.w.1
  refine ms_oR_i xf_0_5 (ms_oR_i xf_0_2 (ms_oI_i (k_pc h) (mx_n0 (k_sett (i := 0) h hC (Nat.zero_le _) (Nat.le_refl _) (by omega)) (fun Y fy ⟨hc, hse⟩ => ?_))))
  have hY := h.fr fy
  have hO := SE_or (all_SE hse) h.w
  have hP : ∀ e, (List.range e).filter (fun e => decide (ab_en A e 1 = m) && (ab_es A e j && (ab_or A e j).isNone)) = (List.range e).filter (fun e => decide (ab_en A e 1 = m) && (ab_es A e j && (ab_or A e j).isNone)) := fun _ => rfl
  unfold an_nth ab_bl
  generalize hPd : (fun e => decide (ab_en A e 1 = m) && (ab_es A e j && (ab_or A e j).isNone)) = P
  have hlen : ∀ e, ((List.range e).filter P).length ≤ e := fun e => by
    have := List.length_filter_le P (List.range e)
    rw [List.length_range] at this
    exact this
  suffices H : ∀ r e, e + r = ab_e A → (∀ z, ms_ix ((List.range (ab_e A)).filter P).length k = true → k = nI z → ((List.range e).filter P).length ≤ z) → ms_V cd_X8_births none 1 (ms_Cl (d + 7)) (fX A X t (if k = -1 then nI ((List.range (ab_e A)).filter P).length else if ms_ix ((List.range (ab_e A)).filter P).length k then nI (((List.range (ab_e A)).filter P).getD k.toNatClampNeg 0) else -1)) 44 [(0, .ref 0), (1, .int (nI m)), (2, .int (nI j)), (3, .int k), (4, .int (nI ((List.range e).filter P).length)), (5, .int (nI e))] [] (ms_x Y t) from H (ab_e A) 0 (by omega) (fun z _ _ => Nat.zero_le z)
  intro r
  induction r with
  | zero =>
    intro e he hz
    have hee : e = ab_e A := by omega
    subst hee
    refine b_X8_births_44 (ms_oR_i xf_0_2 (ms_oI_i (k_ec hY) ?_))
    refine ms_yes ((ms_nle (by omega) (by omega)).mpr (by omega)) (ms_ite2 (fun z => ?_) (fun z => ?_))
    · rw [if_pos z]
      exact ⟨Y, _, fy, rfl, rfl, rfl, hc⟩
    · rw [if_neg z]
      refine ⟨Y, _, fy, rfl, rfl, ?_, hc⟩
      cases hx : ms_ix ((List.range (ab_e A)).filter P).length k with
      | false => rfl
      | true =>
        obtain ⟨y, hy1, e5, _, _⟩ := ms_ix_k hx
        have := hz y hx e5
        omega
  | succ r ih =>
    intro e he hz
    have hp := (h.w.2.2.2.2.1 e (by omega)).1
    have ht := (h.w.2.2.2.2.1 e (by omega)).2
    have hl := hlen e
    have hsucc : (List.range (e + 1)).filter P = (List.range e).filter P ++ (if P e then [e] else []) := by
      rw [List.range_succ, List.filter_append]
      congr 1
      by_cases hc : P e = true
      · rw [List.filter_cons, if_pos hc, if_pos hc]; rfl
      · rw [List.filter_cons, if_neg hc, if_neg hc]; rfl
    refine b_X8_births_44 (ms_oR_i xf_0_2 (ms_oI_i (k_ec hY) ?_))
    refine ms_no (fun z => by rw [ms_nle (by omega) (by omega)] at z; omega) (ms_oR_i xf_0_2 (ms_c1_i (k_thingOf hY (by omega)) ?_))
    rw [show nI e + 1 = nI (e + 1) from ms_p1 1]
    have skip : P e = false → ms_V cd_X8_births none 1 (ms_Cl (d + 7)) (fX A X t (if k = -1 then nI ((List.range (ab_e A)).filter P).length else if ms_ix ((List.range (ab_e A)).filter P).length k then nI (((List.range (ab_e A)).filter P).getD k.toNatClampNeg 0) else -1)) 44 [(0, .ref 0), (1, .int (nI m)), (2, .int (nI j)), (3, .int k), (4, .int (nI ((List.range e).filter P).length)), (5, .int (nI (e + 1)))] [] (ms_x Y t) := by
      intro hno
      have e5 : (List.range (e + 1)).filter P = (List.range e).filter P := by rw [hsucc, hno]; simp
      have H := ih (e + 1) (by omega) (fun z h1 h2 => by rw [e5]; exact hz z h1 h2)
      rw [e5] at H
      exact H
    refine ms_ite2 (fun z => ?_) (fun z => ?_)
    · rw [ms_nI_eq (by omega) (by omega)] at z
      refine ms_no (by decide) (ms_oR_i xf_0_2 (ms_oR_i xf_0_2 (ms_c1_i (k_paperOf hY (by omega)) (ms_c1_i (k_isSeen hY (by omega) (by omega)) (ms_ifT (fun hg => ?_) (fun hg => ?_))))))
      · refine skip ?_
        rw [← hPd]
        show (decide (ab_en A e 1 = m) && (ab_es A e j && (ab_or A e j).isNone)) = false
        rw [show ab_es A e j = false from hg, Bool.false_and, Bool.and_false]
      · refine ms_oR_i xf_0_5 (ms_c1_i (k_originOf hY LO_24 (by omega)) ?_)
        rw [hO e (by omega) hg]
        cases ho : ab_or A e j with
        | none =>
          have hPe : P e = true := by
            rw [← hPd]
            show (decide (ab_en A e 1 = m) && (ab_es A e j && (ab_or A e j).isNone)) = true
            rw [decide_eq_true z, show ab_es A e j = true from hg, ho]
            rfl
          have hat := filt_at hPe (ab_e A - (e + 1))
          rw [show e + 1 + (ab_e A - (e + 1)) = ab_e A by omega] at hat
          obtain ⟨hlt, hget⟩ := List.getElem?_eq_some_iff.mp hat
          refine ms_yes rfl (ms_ite2 (fun z2 => ?_) (fun z2 => ?_))
          · refine ⟨Y, _, fy, rfl, rfl, ?_, hc⟩
            rw [← z2, if_neg (nI_m1 (by omega)), ms_ix_nI (by omega), decide_eq_true hlt, if_pos rfl, ms_nc (by omega), List.getD_eq_getElem?_getD, hat]
            rfl
          · have e5 : ((List.range (e + 1)).filter P).length = ((List.range e).filter P).length + 1 := by rw [hsucc, hPe]; simp
            have H := ih (e + 1) (by omega) (fun y h1 h2 => by
              have := hz y h1 h2
              rw [e5]
              by_cases hey : ((List.range e).filter P).length = y
              · exact absurd (by rw [hey]; exact h2.symm) z2
              · omega)
            rw [e5] at H
            rw [show nI ((List.range e).filter P).length + 1 = nI (((List.range e).filter P).length + 1) from ms_p1 1]
            exact H
        | some f =>
          have hf := (ab_or_in (by omega) ho).1
          refine ms_no (nI_m1 (x := f) (by omega)) (skip ?_)
          rw [← hPd]
          show (decide (ab_en A e 1 = m) && (ab_es A e j && (ab_or A e j).isNone)) = false
          rw [ho]
          simp
    · rw [ms_nI_eq (by omega) (by omega)] at z
      refine ms_yes rfl (skip ?_)
      rw [← hPd]
      show (decide (ab_en A e 1 = m) && (ab_es A e j && (ab_or A e j).isNone)) = false
      rw [decide_eq_false z]
      rfl
theorem k_drift (h : CX A 6 X t) (hC : LC A 24 X) {e : Int32} : ms_H' (d + 8) 121 [.ref 0, .int e, .int q] (ms_x X t) (fX A X t (an_drift A e q)) := by
  refine mx_m (fun a b c => m_X8_drift a b ⟨_, xo_0⟩ c) fV_l (b_X8_drift_0 (ms_oR_i xf_0_2 (ms_c1_i (k_pofI h) (ms_oR_i xf_0_2 (ms_c1_i (k_seenI h) ?_)))))
  unfold an_drift
  rw [an_seen_es h.w]
  refine ms_ifT (fun hg => ?_) (fun hg => ?_)
  · rw [hg]
    exact fX_0 hC
  obtain ⟨i, j, rfl, rfl, e1, e2, hi, hj, hs⟩ := es_k hg
  have hp := (h.w.2.2.2.2.1 i hi).1
  have ht := (h.w.2.2.2.2.1 i hi).2
  have hw1 := h.w.1
  have hei : ms_ix (ab_e A) (nI i) = true := by rw [ms_ix_nI (by omega), decide_eq_true hi]
  rw [hg, e1, e2, hei, if_pos rfl, if_pos rfl, show nI (ab_en A i 0) + 1 = nI (ab_en A i 0 + 1) from ms_p1 1]
  refine ms_oR_i xf_0_5 (mx_n0 (k_sett h hC (by omega) (by omega) (by omega)) (fun Y fy ⟨e3, e4⟩ => ?_))
  have hse := e4 _ (Nat.le_refl _) (by omega) hs
  have hY := h.fr fy
  have k := hse.2.2.2 (ab_n A i) (ab_n_lt hi)
  rw [q_e_n hi, sb_sl] at k
  refine ms_oR_i xf_0_5 (ms_c1_i (k_originOf hY LO_24 hi) ?_)
  rw [show cx_a Y (24 + 6) i = or_I (ab_or A i j) from k]
  refine ms_oR_i xf_0_2 (ms_c1_i (k_thingOf hY hi) (ms_oR_i xf_0_2 (ms_c1_i (k_claimOf hY hi) ?_)))
  cases ho : ab_or A i j with
  | none =>
    refine ms_yes rfl (ms_oR_i xf_0_2 (ms_c1_i (k_isGhost hY ht) (ms_ifT (fun hg => ?_) (fun hg => ?_))))
    · refine ms_oR_i xf_0_2 (ms_c1_i (k_ofThing hY ht (j := 4) (by decide)) ⟨Y, _, fy, rfl, rfl, ?_, e3⟩)
      simp only [hg]
      rfl
    · refine ⟨Y, _, fy, rfl, rfl, ?_, e3⟩
      simp only [hg]
      rfl
  | some f =>
    obtain ⟨hf, _⟩ := ab_or_in hi ho
    exact ms_no (nI_m1 (x := f) (by omega)) (ms_oR_i xf_0_2 (ms_c1_i (k_claimOf hY hf) ⟨Y, _, fy, rfl, rfl, rfl, e3⟩))
theorem k_weight (h : CX A 6 X t) (hC : LC A 24 X) {e : Int32} : ms_H' (d + 8) 122 [.ref 0, .int e, .int q] (ms_x X t) (fX A X t (an_weight A e q)) := by
  refine mx_m (fun a b c => m_X8_weight a b ⟨_, xo_0⟩ c) fV_l (b_X8_weight_0 (ms_oR_i xf_0_2 (ms_oR_i xf_0_2 (ms_c1_i (k_pofI h) (ms_c1_i (k_seenI h) ?_)))))
  unfold an_weight
  rw [an_seen_es h.w]
  refine ms_ifT (fun hg => ?_) (fun hg => ?_)
  · rw [hg]
    exact fX_0 hC
  obtain ⟨i, j, rfl, rfl, e1, e2, hi, hj, hs⟩ := es_k hg
  have hw1 := h.w.1
  rw [hg, e1, e2, if_pos rfl]
  refine ms_oR_i xf_0_5 (ms_oR_i xf_0_2 (ms_oI_i (k_pc h) (mx_n0 (k_sett (i := 0) h hC (Nat.zero_le _) (Nat.le_refl _) (by omega)) (fun Y fy ⟨hc, hse⟩ => ?_))))
  have hY := h.fr fy
  have hO := SE_or (all_SE hse) h.w
  generalize hF : (fun o => if ab_es A o j && ab_cf A j i 16 (ab_or A o j) then 1 else 0) = F
  suffices H : ∀ r o, o + r = ab_e A → ms_V cd_X8_weight none 1 (ms_Cl (d + 7)) (fX A X t (nI (sm F (ab_e A)))) 43 [(0, .ref 0), (1, .int (nI i)), (2, .int (nI j)), (3, .int (nI (sm F o))), (4, .int (nI o))] [] (ms_x Y t) from H (ab_e A) 0 (by omega)
  intro r
  induction r with
  | zero =>
    intro o ho
    refine b_X8_weight_43 (ms_oR_i xf_0_2 (ms_oI_i (k_ec hY) ?_))
    refine ms_yes ((ms_nle (by omega) (by omega)).mpr (by omega)) ⟨Y, _, fy, rfl, rfl, ?_, hc⟩
    rw [show ab_e A = o by omega]
  | succ r ih =>
    intro o ho
    have hp := (h.w.2.2.2.2.1 o (by omega)).1
    refine b_X8_weight_43 (ms_oR_i xf_0_2 (ms_oI_i (k_ec hY) ?_))
    refine ms_no (fun z => by rw [ms_nle (by omega) (by omega)] at z; omega) (ms_oR_i xf_0_2 (ms_oR_i xf_0_2 (ms_c1_i (k_paperOf hY (by omega)) (ms_c1_i (k_isSeen hY (by omega) (by omega)) ?_))))
    have H := ih (o + 1) (by omega)
    have hFo : F o = if ab_es A o j && ab_cf A j i 16 (ab_or A o j) then 1 else 0 := by rw [← hF]
    rw [show sm F (o + 1) = sm F o + F o from rfl, hFo] at H
    rw [show nI o + 1 = nI (o + 1) from ms_p1 1]
    refine ms_ifT (fun hg => ?_) (fun hg => ?_)
    · rw [show ab_es A o j = false from hg] at H
      exact H
    · rw [show ab_es A o j = true from hg, Bool.true_and] at H
      refine ms_oR_i xf_0_5 (ms_c1_i (k_comesFrom hY LO_24 hO (by omega) hg hi) (ms_ifT (fun hg2 => ?_) (fun hg2 => ?_)))
      · rw [hg2] at H
        exact H
      · rw [hg2, if_pos rfl] at H
        rw [show nI (sm F o) + 1 = nI (sm F o + 1) from ms_p1 1]
        exact H
theorem k_shared (h : CX A 6 X t) (hp : p < ab_p A) (ho : o < ab_p A) (hi : i < 2 ^ 30) (hj : j < 2 ^ 30) : ms_Cl (d + 4) 124 [.ref 0, .int (nI p), .int (nI i), .int (nI o), .int (nI j)] (ms_x X t) (some (.int (nI (ab_ru A p i o j 12 0)))) (ms_x X t) := by
  have hw1 := h.w.1
  refine m_X8_sharedFrom (Nat.le_refl _) (Nat.le_refl _) ⟨_, xo_0⟩ (b_X8_sharedFrom_0 (Q := ms_lf _ _) ?_)
  suffices H : ∀ r n, n + r = 12 → ms_V cd_X8_sharedFrom none 1 (ms_Cl (d + 3)) (ms_lf (some (.int (nI (ab_ru A p i o j r n)))) (ms_x X t)) 3 [(0, .ref 0), (1, .int (nI p)), (2, .int (nI i)), (3, .int (nI o)), (4, .int (nI j)), (5, .int (nI n))] [] (ms_x X t) from H 12 0 rfl
  intro r
  induction r with
  | zero =>
    intro n hn
    refine b_X8_sharedFrom_3 (ms_yes ?_ ⟨rfl, rfl⟩)
    rw [show n = 12 by omega]; decide
  | succ r ih =>
    intro n hn
    refine b_X8_sharedFrom_3 (ms_no ?_ (ms_oR_i xf_0_2 ?_))
    · rw [show (12 : Int32) = nI 12 from rfl, ms_nle (by decide) (by omega)]
      omega
    rw [ms_p1, ms_p1, show nI n + 1 = nI (n + 1) from ms_p1 1]
    unfold ab_ru
    cases h1 : (ab_l A p)[i + n]? with
    | none =>
      refine ms_c1_i (k_entryAtNo h hp (List.getElem?_eq_none_iff.mp h1) (by omega)) (ms_oR_i xf_0_2 ?_)
      cases h2 : (ab_l A o)[j + n]? with
      | none => exact ms_c1_i (k_entryAtNo h ho (List.getElem?_eq_none_iff.mp h2) (by omega)) (ms_yes rfl ⟨rfl, rfl⟩)
      | some f => exact ms_c1_i (k_entryAt h ho h2) (ms_yes rfl ⟨rfl, rfl⟩)
    | some e =>
      obtain ⟨he, _⟩ := ab_l_lt h1
      refine ms_c1_i (k_entryAt h hp h1) (ms_oR_i xf_0_2 ?_)
      cases h2 : (ab_l A o)[j + n]? with
      | none => exact ms_c1_i (k_entryAtNo h ho (List.getElem?_eq_none_iff.mp h2) (by omega)) (ms_no (nI_m1 (x := e) (by omega)) (ms_yes rfl ⟨rfl, rfl⟩))
      | some f =>
        obtain ⟨hf, _⟩ := ab_l_lt h2
        have t1 := h.w.2.2.2.1 e 1
        have t2 := h.w.2.2.2.1 f 1
        refine ms_c1_i (k_entryAt h ho h2) (ms_no (nI_m1 (x := e) (by omega)) (ms_no (nI_m1 (x := f) (by omega)) (ms_oR_i xf_0_2 (ms_c1_i (k_thingOf h he) (ms_oR_i xf_0_2 (ms_c1_i (k_thingOf h hf) ?_))))))
        simp only
        refine ms_ite2 (fun z => ?_) (fun z => ?_)
        · rw [ms_nI_eq (by omega) (by omega)] at z
          rw [if_pos z]
          exact ih (n + 1) (by omega)
        · rw [ms_nI_eq (by omega) (by omega)] at z
          rw [if_neg z]
          exact ⟨rfl, rfl⟩
theorem ab_ru_le : ∀ (F n : Nat), n ≤ ab_ru A p i o j F n ∧ ab_ru A p i o j F n ≤ n + F
  | 0, n => ⟨Nat.le_refl _, Nat.le_refl _⟩
  | F + 1, n => by
    unfold ab_ru
    split
    · split
      · have := ab_ru_le F (n + 1)
        omega
      · omega
    · omega
theorem ab_r2_le (acc : Nat × Int32) (ha : acc.1 ≤ 12) : ∀ j, (ab_r2 A p o i acc j).1 ≤ 12
  | 0 => ha
  | j + 1 => by
    have := ab_r2_le acc ha j
    have h2 := (ab_ru_le (A := A) (p := p) (i := i) (o := o) (j := j) 12 0).2
    unfold ab_r2
    split
    · show ab_ru A p i o j 12 0 ≤ 12
      omega
    · exact this
theorem ab_r1_le : ∀ i, (ab_r1 A p o i).1 ≤ 12
  | 0 => Nat.zero_le _
  | i + 1 => ab_r2_le _ (ab_r1_le i) _
theorem k_run (h : CX A 6 X t) (hC : LC A 24 X) {a c : Int32} : ms_H' (d + 5) 123 [.ref 0, .int a, .int c, .int w] (ms_x X t) (fX A X t (an_run A a c w)) := by
  refine mx_m (fun a b c => m_X8_run a b ⟨_, xo_0⟩ c) fV_l (b_X8_run_0 ?_)
  unfold an_run
  refine ms_ite2 (fun z => ?_) (fun z => ?_)
  · rw [if_pos z]
    exact fX_0 hC
  rw [if_neg z]
  refine ms_oR_i xf_0_2 (ms_c1_i (k_hasPI h) (ms_ifT (fun hg => ?_) (fun hg => ?_)))
  · rw [hg]
    exact fX_0 hC
  rw [hg, Bool.true_and]
  refine ms_oR_i xf_0_2 (ms_c1_i (k_hasPI h) (ms_ifT (fun hg2 => ?_) (fun hg2 => ?_)))
  · rw [hg2]
    exact fX_0 hC
  rw [hg2, Bool.true_and]
  refine ms_c1_i (k_within 1 (by decide)) (ms_ifT (fun hw => ?_) (fun hw => ?_))
  · rw [hw]
    exact fX_0 hC
  rw [hw, if_pos rfl]
  obtain ⟨p, hp, rfl, e2, _⟩ := ms_ix_k hg
  obtain ⟨o, ho, rfl, f2, _⟩ := ms_ix_k hg2
  rw [e2, f2]
  have hn1 := h.w.2.2.2.2.2 p
  have hn2 := h.w.2.2.2.2.2 o
  suffices H : ∀ r i, i + r = (ab_l A p).length → ms_V cd_X8_run none 1 (ms_Cl (d + 4)) (fX A X t (if w = 0 then nI (ab_r1 A p o (ab_l A p).length).1 else (ab_r1 A p o (ab_l A p).length).2)) 46 [(0, .ref 0), (1, .int (nI p)), (2, .int (nI o)), (3, .int w), (4, .int (nI (ab_r1 A p o i).1)), (5, .int (ab_r1 A p o i).2), (6, .int (nI i))] [] (ms_x X t) from H (ab_l A p).length 0 (by omega)
  intro r
  induction r with
  | zero =>
    intro i hi
    refine b_X8_run_46 (ms_oR_i xf_0_2 (ms_c1_i (k_size h hp) ?_))
    refine ms_yes ((ms_nle (by omega) (by omega)).mpr (by omega)) ?_
    rw [show (ab_l A p).length = i by omega]
    refine ms_ite2 (fun z => ?_) (fun z => ?_)
    · rw [if_pos z]
      exact fX_0 hC
    · rw [if_neg z]
      exact fX_0 hC
  | succ r ih =>
    intro i hi
    refine b_X8_run_46 (ms_oR_i xf_0_2 (ms_c1_i (k_size h hp) ?_))
    refine ms_no (fun z => by rw [ms_nle (by omega) (by omega)] at z; omega) ?_
    have H2 : ∀ r2 j, j + r2 = (ab_l A o).length → ms_V cd_X8_run none 1 (ms_Cl (d + 4)) (fX A X t (if w = 0 then nI (ab_r1 A p o (ab_l A p).length).1 else (ab_r1 A p o (ab_l A p).length).2)) 63 [(0, .ref 0), (1, .int (nI p)), (2, .int (nI o)), (3, .int w), (4, .int (nI (ab_r2 A p o i (ab_r1 A p o i) j).1)), (5, .int (ab_r2 A p o i (ab_r1 A p o i) j).2), (6, .int (nI i)), (7, .int (nI j))] [] (ms_x X t) := by
      intro r2
      induction r2 with
      | zero =>
        intro j hj
        refine b_X8_run_63 (ms_oR_i xf_0_2 (ms_c1_i (k_size h ho) ?_))
        refine ms_yes ((ms_nle (by omega) (by omega)).mpr (by omega)) ?_
        have H := ih (i + 1) (by omega)
        rw [show ab_r1 A p o (i + 1) = ab_r2 A p o i (ab_r1 A p o i) j by
          rw [show j = (ab_l A o).length by omega]
          rfl] at H
        rw [show nI i + 1 = nI (i + 1) from ms_p1 1]
        exact H
      | succ r2 ih2 =>
        intro j hj
        refine b_X8_run_63 (ms_oR_i xf_0_2 (ms_c1_i (k_size h ho) ?_))
        refine ms_no (fun z => by rw [ms_nle (by omega) (by omega)] at z; omega) (ms_c1_i (k_shared h hp ho (by omega) (by omega)) ?_)
        have l1 := ab_r2_le (A := A) (p := p) (o := o) (i := i) (ab_r1 A p o i) (ab_r1_le i) j
        have l2 := (ab_ru_le (A := A) (p := p) (i := i) (o := o) (j := j) 12 0).2
        have H := ih2 (j + 1) (by omega)
        rw [show nI j + 1 = nI (j + 1) from ms_p1 1]
        refine ms_ite2 (fun z => ?_) (fun z => ?_)
        · rw [ms_nle (by omega) (by omega)] at z
          have e5 : ab_r2 A p o i (ab_r1 A p o i) (j + 1) = ab_r2 A p o i (ab_r1 A p o i) j := by
            rw [ab_r2]
            exact if_neg (by omega)
          rw [e5] at H
          exact H
        · rw [ms_nle (by omega) (by omega)] at z
          have e5 : ab_r2 A p o i (ab_r1 A p o i) (j + 1) = (ab_ru A p i o j 12 0, nI i) := by
            rw [ab_r2]
            exact if_pos (by omega)
          rw [e5] at H
          exact H
    exact H2 (ab_l A o).length 0 (by omega)
end Clc
