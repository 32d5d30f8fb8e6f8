/-! CONTRACTS: the model's of, tape, counts, images: written by wip/whole/mdl.py from mdo.txt -/
def md_by (M : md_T) (x : Int32) : md_T := md_ui (md_ua M 7 (md_i M 8).toNatClampNeg x) 8 (md_i M 8 + 1)
def md_sh (v k : Int32) : Int32 := (v >>> (k &&& 31)) &&& 255
def md_four (M : md_T) (v : Int32) : md_T := md_by (md_by (md_by (md_by M (md_sh v 24)) (md_sh v 16)) (md_sh v 8)) (md_sh v 0)
theorem md_i_at {M : md_T} {k : Nat} {x : Int32} : md_i (md_ui M k x) k = x := by
  unfold md_i md_ui
  exact if_pos rfl
theorem md_i_ne {M : md_T} {k j : Nat} {x : Int32} (h : j ≠ k) : md_i (md_ui M k x) j = md_i M j := by
  unfold md_i md_ui
  exact if_neg h
def md_sa (M : md_T) (k : Nat) (f : Nat → Int32) : md_T := (M.1, M.2.1, fun j => if j = k then f else M.2.2.1 j, M.2.2.2)
theorem md_sa_ua {M : md_T} {k n : Nat} {f : Nat → Int32} {x : Int32} : md_ua (md_sa M k f) k n x = md_sa M k (upd f n x) := by
  unfold md_ua md_sa
  simp only [Prod.mk.injEq, true_and, and_true]
  funext j
  by_cases h : j = k
  · simp only [h, if_true]
  · simp only [h, if_false]
theorem md_sa_0 {M : md_T} {k : Nat} : md_sa M k (md_a M k) = M := by
  unfold md_sa md_a
  have : (fun j => if j = k then fun n => M.2.2.1 k n else M.2.2.1 j) = M.2.2.1 := by
    funext j
    by_cases h : j = k
    · simp only [h, if_true]
    · simp only [h, if_false]
  rw [this]
theorem md_a_sa {M : md_T} {k n : Nat} {f : Nat → Int32} : md_a (md_sa M k f) k n = f n := by
  unfold md_a md_sa
  simp only [if_true]
theorem md_a_sn {M : md_T} {k j n : Nat} {f : Nat → Int32} (h : j ≠ k) : md_a (md_sa M k f) j n = md_a M j n := by
  unfold md_a md_sa
  simp only [h, if_false]
section Mdo
variable {d : Nat} {h t : ms_S} {M : md_T} {n : Nat}
theorem md_by_8 {x : Int32} (h0 : md_i M 8 = nI n) : md_i (md_by M x) 8 = nI (n + 1) := by
  unfold md_by
  rw [md_i_at, h0]
  exact ms_p1 1
theorem c9_fourStep {Q : Option Value → ms_S → Prop} {v k : Int32} (hk : ¬ k < 0) (h0 : md_i M 8 = nI n) (hn : n < 400) (H : ms_V cd_X9_four none 0 (ms_Cl d) Q 3 [(0, .ref h.length), (1, .int v), (2, .int (k + (-8)))] [] (ms_m h (md_by M (md_sh v k)) t)) : ms_V cd_X9_four none 0 (ms_Cl d) Q 3 [(0, .ref h.length), (1, .int v), (2, .int k)] [] (ms_m h M t) := by
  refine b_X9_four_3 (ms_no hk ?_)
  simp only [ms_oR_e, ms_oI_e, ms_oL_e, mm_f7, mm_r7, mm_w7, mm_f8, mm_p8]
  refine ⟨?_, ?_⟩
  · rw [h0]
    exact ms_in hn (by decide)
  · exact H
theorem c9_four {v : Int32} (h0 : md_i M 8 = nI n) (hn : n + 4 ≤ 400) : ms_Cl (d + 1) 170 [.ref h.length, .int v] (ms_m h M t) none (ms_m h (md_four M v) t) := by
  refine m_X9_four ms_m_l ms_m_t ⟨_, ms_m_0⟩ (b_X9_four_0 (Q := ms_lf _ _) ?_)
  refine c9_fourStep (k := 24) (by decide) h0 (by omega) ?_
  rw [show (24 : Int32) + (-8) = 16 by decide]
  have h1 := md_by_8 (x := md_sh v 24) h0
  refine c9_fourStep (k := 16) (by decide) h1 (by omega) ?_
  rw [show (16 : Int32) + (-8) = 8 by decide]
  have h2 := md_by_8 (x := md_sh v 16) h1
  refine c9_fourStep (k := 8) (by decide) h2 (by omega) ?_
  rw [show (8 : Int32) + (-8) = 0 by decide]
  have h3 := md_by_8 (x := md_sh v 8) h2
  refine c9_fourStep (k := 0) (by decide) h3 (by omega) ?_
  exact b_X9_four_3 (ms_yes (by decide) ⟨rfl, rfl⟩)
theorem md_four_8 {v : Int32} (h0 : md_i M 8 = nI n) : md_i (md_four M v) 8 = nI (n + 4) := by
  unfold md_four
  exact md_by_8 (md_by_8 (md_by_8 (md_by_8 h0)))
def md_five (M : md_T) (a b c e f : Int32) : md_T := md_four (md_four (md_four (md_four (md_four M a) b) c) e) f
def mo_feed (M : md_T) (n : Nat) (a b c e f : Int32) : Int32 × md_T := if n + 20 ≤ 400 then (nI (n + 20), md_five (md_ui M 0 0) a b c e f) else (-1, md_ui M 0 0)
theorem c9_feed {a b c e f : Int32} (h0 : md_i M 8 = nI n) (hn : n ≤ 400) : ms_Cl (d + 2) 171 [.ref h.length, .int a, .int b, .int c, .int e, .int f] (ms_m h M t) (some (.int (mo_feed M n a b c e f).1)) (ms_m h (mo_feed M n a b c e f).2 t) := by
  have h1 : md_i (md_ui M 0 0) 8 = nI n := by rw [md_i_ne (by decide), h0]
  refine m_X9_feed ms_m_l ms_m_t ⟨_, ms_m_0⟩ (b_X9_feed_0 (Q := ms_lf _ _) ?_)
  simp only [ms_oR_e, ms_oI_e, ms_oL_e, mm_f0, mm_p0, mm_f8, mm_p8]
  rw [h1, show nI n + 20 = nI (n + 20) from ms_p1 20]
  unfold mo_feed
  by_cases h2 : n + 20 ≤ 400
  · refine ms_yes ((ms_nle (b := 400) (by omega) (by decide)).mpr h2) ?_
    rw [if_pos h2]
    have h3 := md_four_8 (v := a) h1
    have h4 := md_four_8 (v := b) h3
    have h5 := md_four_8 (v := c) h4
    have h6 := md_four_8 (v := e) h5
    have h7 := md_four_8 (v := f) h6
    refine ms_c0_i (c9_four h1 (by omega)) (ms_c0_i (c9_four h3 (by omega)) (ms_c0_i (c9_four h4 (by omega)) (ms_c0_i (c9_four h5 (by omega)) (ms_c0_i (c9_four h6 (by omega)) ?_))))
    simp only [ms_oR_e, ms_oI_e, ms_oL_e, mm_f8, mm_p8]
    rw [h7]
    exact ⟨rfl, rfl⟩
  · refine ms_no (fun c => h2 ((ms_nle (b := 400) (by omega) (by decide)).mp c)) ?_
    rw [if_neg h2]
    exact ⟨rfl, rfl⟩
def mo_end (M : md_T) (v : Int32) : Int32 × md_T := if v < 0 then (-1, md_ui M 0 0) else if v ≤ md_i M 8 then (v, md_ui (md_ui M 0 0) 8 v) else (-1, md_ui M 0 0)
theorem c9_end {v : Int32} : ms_Cl (d + 1) 172 [.ref h.length, .int v] (ms_m h M t) (some (.int (mo_end M v).1)) (ms_m h (mo_end M v).2 t) := by
  refine m_X9_end ms_m_l ms_m_t ⟨_, ms_m_0⟩ (b_X9_end_0 (Q := ms_lf _ _) ?_)
  simp only [ms_oR_e, ms_oI_e, ms_oL_e, mm_f0, mm_p0, mm_f8, mm_p8]
  unfold mo_end
  by_cases h1 : v < 0
  · refine ms_yes h1 ?_
    rw [if_pos h1]
    exact ⟨rfl, rfl⟩
  · refine ms_no h1 ?_
    rw [if_neg h1, md_i_ne (by decide)]
    by_cases h2 : v ≤ md_i M 8
    · refine ms_yes h2 ?_
      rw [if_pos h2]
      exact ⟨rfl, rfl⟩
    · refine ms_no h2 ?_
      rw [if_neg h2]
      exact ⟨rfl, rfl⟩
theorem c9_fault : ms_Cl (d + 1) 180 [.ref h.length] (ms_m h M t) (some (.int (md_i M 13))) (ms_m h (md_ui M 0 0) t) := by
  refine m_X9_fault ms_m_l ms_m_t ⟨_, ms_m_0⟩ (b_X9_fault_0 (Q := ms_lf _ _) ?_)
  simp only [ms_oR_e, ms_oI_e, ms_oL_e, mm_f0, mm_p0, mm_f13, mm_p13]
  exact ⟨rfl, rfl⟩
theorem c9_status : ms_Cl (d + 1) 255 [.ref h.length] (ms_m h M t) (some (.int (md_i M 1))) (ms_m h (md_ui M 0 0) t) := by
  refine m_X9_status ms_m_l ms_m_t ⟨_, ms_m_0⟩ (b_X9_status_0 (Q := ms_lf _ _) ?_)
  simp only [ms_oR_e, ms_oI_e, ms_oL_e, mm_f0, mm_p0, mm_f1, mm_p1]
  exact ⟨rfl, rfl⟩
def mo_count (M : md_T) (v : Int32) : Int32 := if v = 0 then md_a M 3 0 else if v = 1 then md_a M 3 1 else if v = 2 then md_a M 3 2 else if v = 3 then md_a M 3 3 else if v = 4 then md_i M 8 else if v = 5 then md_a M 2 1 else if v = 6 then md_a M 2 2 else if v = 7 then md_a M 2 3 else if v = 8 then md_a M 2 5 else if v = 9 then md_a M 2 6 else -1
theorem ms_ite2 {C : Prop} {dc : Decidable C} {A B : Prop} (hy : C → A) (hn : ¬ C → B) : @ite _ C dc A B := by
  by_cases h : C
  · exact ms_yes h (hy h)
  · exact ms_no h (hn h)
theorem c9_count {v : Int32} : ms_Cl (d + 1) 254 [.ref h.length, .int v] (ms_m h M t) (some (.int (mo_count M v))) (ms_m h (md_ui M 0 0) t) := by
  refine m_X9_count ms_m_l ms_m_t ⟨_, ms_m_0⟩ (b_X9_count_0 (Q := ms_lf _ _) ?_)
  simp only [ms_oR_e, ms_oI_e, ms_oL_e, mm_f0, mm_p0, mm_f2, mm_r2, mm_w2, mm_f3, mm_r3, mm_w3, mm_f8, mm_p8]
  unfold mo_count
  refine ms_ite2 (fun e => ?_) (fun e => ?_)
  · rw [if_pos e]
    exact ⟨by unfold vp_in; decide, rfl, rfl⟩
  rw [if_neg e]
  refine ms_ite2 (fun e => ?_) (fun e => ?_)
  · rw [if_pos e]
    exact ⟨by unfold vp_in; decide, rfl, rfl⟩
  rw [if_neg e]
  refine ms_ite2 (fun e => ?_) (fun e => ?_)
  · rw [if_pos e]
    exact ⟨by unfold vp_in; decide, rfl, rfl⟩
  rw [if_neg e]
  refine ms_ite2 (fun e => ?_) (fun e => ?_)
  · rw [if_pos e]
    exact ⟨by unfold vp_in; decide, rfl, rfl⟩
  rw [if_neg e]
  refine ms_ite2 (fun e => ?_) (fun e => ?_)
  · rw [if_pos e]
    exact ⟨rfl, rfl⟩
  rw [if_neg e]
  refine ms_ite2 (fun e => ?_) (fun e => ?_)
  · rw [if_pos e]
    exact ⟨by unfold vp_in; decide, rfl, rfl⟩
  rw [if_neg e]
  refine ms_ite2 (fun e => ?_) (fun e => ?_)
  · rw [if_pos e]
    exact ⟨by unfold vp_in; decide, rfl, rfl⟩
  rw [if_neg e]
  refine ms_ite2 (fun e => ?_) (fun e => ?_)
  · rw [if_pos e]
    exact ⟨by unfold vp_in; decide, rfl, rfl⟩
  rw [if_neg e]
  refine ms_ite2 (fun e => ?_) (fun e => ?_)
  · rw [if_pos e]
    exact ⟨by unfold vp_in; decide, rfl, rfl⟩
  rw [if_neg e]
  refine ms_ite2 (fun e => ?_) (fun e => ?_)
  · rw [if_pos e]
    exact ⟨by unfold vp_in; decide, rfl, rfl⟩
  rw [if_neg e]
  exact ⟨rfl, rfl⟩
def mo_of (M : md_T) (n : Nat) (v w : Int32) : Int32 := if ms_ix n v && md_in w 0 7 then (if w = 1 then nI (md_cnt M (md_a M 3 (106 + 7 * v.toNatClampNeg)) v.toNatClampNeg) else if w = 0 then md_a M 3 (106 + 7 * v.toNatClampNeg) else md_a M 3 (106 + 7 * v.toNatClampNeg + (w.toNatClampNeg - 1))) else -1
theorem ms_in_k {w : Int32} {k : Nat} (hk : k < 2 ^ 31) (h1 : md_in w 0 (nI k) = true) : ∃ j, j ≤ k ∧ w = nI j ∧ w.toNatClampNeg = j := by
  unfold md_in at h1
  rw [Bool.and_eq_true, decide_eq_true_eq, decide_eq_true_eq, Int32.le_iff_toInt_le, Int32.le_iff_toInt_le, nI_toInt hk] at h1
  have h0 : (0 : Int32).toInt = 0 := by decide
  have h2 := h1.2
  have h3 := h1.1
  rw [h0] at h3
  have h4 : ms_ix (k + 1) w = true := by
    unfold ms_ix
    rw [Bool.and_eq_true, decide_eq_true_eq, decide_eq_true_eq]
    omega
  obtain ⟨j, a, b, c, _⟩ := ms_ix_k h4
  exact ⟨j, by omega, b, c⟩
theorem c9_of {v w : Int32} (h0 : md_a M 3 2 = nI n) (hn : n ≤ 120) : ms_Cl (d + 3) 168 [.ref h.length, .int v, .int w] (ms_m h M t) (some (.int (mo_of M n v w))) (ms_m h (md_ui M 0 0) t) := by
  refine m_X9_of ms_m_l ms_m_t ⟨_, ms_m_0⟩ (b_X9_of_0 (Q := ms_lf _ _) ?_)
  simp only [mm_p0]
  unfold mo_of
  refine ms_c1_i (c9_isEntry (n := n) h0 (by omega)) (ms_ifT (fun h1 => ?_) (fun h1 => ?_)) <;> rw [h1]
  · exact ⟨rfl, rfl⟩
  refine ms_c1_i (c9_inI 0 7 (by decide) (by decide)) (ms_ifT (fun h2 => ?_) (fun h2 => ?_)) <;> rw [h2]
  · exact ⟨rfl, rfl⟩
  rw [if_pos (show (true && true) = true from rfl)]
  obtain ⟨k, hk, e1, e2, _⟩ := ms_ix_k h1
  obtain ⟨j, hj, f1, f2⟩ := ms_in_k (k := 7) (by decide) h2
  rw [e2, f2, e1, f1]
  refine ms_ite2 (fun e => ?_) (fun e => ?_)
  · rw [if_pos e]
    suffices H : ∀ r s, s + r = k → ms_V cd_X9_of none 1 (ms_Cl (d + 2)) (ms_lf (some (.int (nI (md_cnt M (md_a M 3 (106 + 7 * k)) k)))) (ms_m h (md_ui M 0 0) t)) 37 [(0, .ref h.length), (1, .int (nI k)), (3, .int (nI (md_cnt M (md_a M 3 (106 + 7 * k)) s))), (4, .int (nI s))] [] (ms_m h (md_ui M 0 0) t) from H k 0 (by omega)
    intro r
    induction r with
    | zero =>
      intro s hs
      refine b_X9_of_37 (ms_yes ((ms_nle (by omega) (by omega)).mpr (by omega)) ⟨?_, rfl⟩)
      rw [show s = k by omega]
    | succ r ih =>
      intro s hs
      refine b_X9_of_37 (ms_no (fun c => ?_) (ms_c1_i (c9_paperOf (by omega)) (ms_c1_i (c9_paperOf (by omega)) ?_)))
      · have := (ms_nle (by omega) (by omega)).mp c
        omega
      rw [show nI s + 1 = nI (s + 1) from ms_p1 1, md_a_ui, md_a_ui]
      have H := ih (s + 1) (by omega)
      refine ms_ite2 (fun g1 => ?_) (fun g1 => ?_)
      · rw [md_cnt, if_pos g1] at H
        rw [show nI (md_cnt M (md_a M 3 (106 + 7 * k)) s) + 1 = nI (md_cnt M (md_a M 3 (106 + 7 * k)) s + 1) from ms_p1 1]
        exact H
      · rw [md_cnt, if_neg g1] at H
        rw [show nI (md_cnt M (md_a M 3 (106 + 7 * k)) s) + 0 = nI (md_cnt M (md_a M 3 (106 + 7 * k)) s + 0) from ms_p1 0]
        exact H
  · rw [if_neg e]
    simp only [ms_oR_e, ms_oI_e, ms_oL_e, mm_f3, mm_r3, mm_w3]
    refine ms_c1_i c9_entryAt ?_
    rw [ms_at106]
    simp only [ms_oR_e, ms_oI_e, ms_oL_e, mm_f3, mm_r3, mm_w3]
    refine ms_ite2 (fun g1 => ?_) (fun g1 => ?_)
    · rw [if_pos g1, show nI (106 + 7 * k) + 0 = nI (106 + 7 * k) from ms_p1 0]
      refine ⟨ms_in (by omega) (by decide), ?_⟩
      rw [ms_nc (by omega)]
      exact ⟨rfl, rfl⟩
    · have hj0 : j ≠ 0 := fun c => g1 (by rw [c]; rfl)
      have hj1 : nI j - 1 = nI (j - 1) := by
        rw [show j = (j - 1) + 1 by omega, ms_nI_m1]
        rfl
      rw [if_neg g1, hj1, ms_p1]
      refine ⟨ms_in (by omega) (by decide), ?_⟩
      rw [ms_nc (by omega)]
      exact ⟨rfl, rfl⟩
end Mdo
