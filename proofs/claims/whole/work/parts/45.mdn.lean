/-! CONTRACTS: the model's entries and lists: written by wip/whole/mdl.py from mdn.txt -/
def md_cnt (M : md_T) (p : Int32) : Nat → Nat
  | 0 => 0
  | e + 1 => md_cnt M p e + (if md_a M 3 (106 + 7 * e) = p then 1 else 0)
theorem md_cnt_le {M : md_T} {p : Int32} (e : Nat) : md_cnt M p e ≤ e := by
  induction e with
  | zero => exact Nat.le_refl _
  | succ e ih => unfold md_cnt; split <;> omega
/-- its place among the entries: the last entry that is the i-th of the paper -/
def md_nth (M : md_T) (p i : Int32) : Nat → Int32
  | 0 => -1
  | e + 1 => if md_a M 3 (106 + 7 * e) = p ∧ nI (md_cnt M p e) = i then nI e else md_nth M p i e
/-- a leaf: the answer and the store -/
def ms_lf (r : Option Value) (g' : ms_S) (r1 : Option Value) (g1 : ms_S) : Prop := r1 = r ∧ g1 = g'
section Mdn
variable {d : Nat} {h t : ms_S} {M : md_T} {n : Nat}
theorem c9_paperOf {e : Nat} (he : e < 120) : ms_Cl (d + 2) 152 [.ref h.length, .int (nI e)] (ms_m h M t) (some (.int (md_a M 3 (106 + 7 * e)))) (ms_m h M t) := by
  refine m_X9_paperOf ms_m_l ms_m_t ⟨_, ms_m_0⟩ (b_X9_paperOf_0 (Q := ms_lf _ _) ?_)
  simp only [ms_oR_e, ms_oI_e, ms_oL_e, mm_f3, mm_r3, mm_w3]
  refine ms_c1_i c9_entryAt ?_
  rw [ms_at106]
  simp only [ms_oR_e, ms_oI_e, ms_oL_e, mm_f3, mm_r3, mm_w3]
  refine ⟨ms_in (by omega) (by decide), ?_⟩
  rw [ms_nc (by omega)]
  exact ⟨rfl, rfl⟩
theorem c9_thingOf {e : Nat} (he : e < 120) : ms_Cl (d + 2) 153 [.ref h.length, .int (nI e)] (ms_m h M t) (some (.int (md_a M 3 (106 + 7 * e + 1)))) (ms_m h M t) := by
  refine m_X9_thingOf ms_m_l ms_m_t ⟨_, ms_m_0⟩ (b_X9_thingOf_0 (Q := ms_lf _ _) ?_)
  simp only [ms_oR_e, ms_oI_e, ms_oL_e, mm_f3, mm_r3, mm_w3]
  refine ms_c1_i c9_entryAt ?_
  rw [ms_at106, show nI (106 + 7 * e) + 1 = nI (106 + 7 * e + 1) from ms_p1 1]
  simp only [ms_oR_e, ms_oI_e, ms_oL_e, mm_f3, mm_r3, mm_w3]
  refine ⟨ms_in (by omega) (by decide), ?_⟩
  rw [ms_nc (by omega)]
  exact ⟨rfl, rfl⟩
theorem c9_fieldOf {e f : Nat} (he : e < 120) (hf : f < 5) : ms_Cl (d + 2) 154 [.ref h.length, .int (nI e), .int (nI f)] (ms_m h M t) (some (.int (md_a M 3 (106 + 7 * e + 2 + f)))) (ms_m h M t) := by
  refine m_X9_fieldOf ms_m_l ms_m_t ⟨_, ms_m_0⟩ (b_X9_fieldOf_0 (Q := ms_lf _ _) ?_)
  simp only [ms_oR_e, ms_oI_e, ms_oL_e, mm_f3, mm_r3, mm_w3]
  refine ms_c1_i c9_entryAt ?_
  rw [ms_at106, show nI (106 + 7 * e) + 2 = nI (106 + 7 * e + 2) from ms_p1 2, ms_p1]
  simp only [ms_oR_e, ms_oI_e, ms_oL_e, mm_f3, mm_r3, mm_w3]
  refine ⟨ms_in (by omega) (by decide), ?_⟩
  rw [ms_nc (by omega)]
  exact ⟨rfl, rfl⟩
theorem c9_isGhost {k : Nat} (hk : k < 8) : ms_Cl (d + 2) 156 [.ref h.length, .int (nI k)] (ms_m h M t) (some (.int (ms_bi (decide (md_a M 3 (10 + 6 * k + 5) = 1))))) (ms_m h M t) := by
  refine m_X9_isGhost ms_m_l ms_m_t ⟨_, ms_m_0⟩ (b_X9_isGhost_0 (Q := ms_lf _ _) ?_)
  simp only [ms_oR_e, ms_oI_e, ms_oL_e, mm_f3, mm_r3, mm_w3]
  refine ms_c1_i c9_thingAt ?_
  rw [ms_at10, show nI (10 + 6 * k) + 5 = nI (10 + 6 * k + 5) from ms_p1 5]
  simp only [ms_oR_e, ms_oI_e, ms_oL_e, mm_f3, mm_r3, mm_w3]
  refine ⟨ms_in (by omega) (by decide), ?_⟩
  rw [ms_nc (by omega)]
  by_cases h1 : md_a M 3 (10 + 6 * k + 5) = 1
  · exact ms_yes h1 ⟨(by first | exact Or.inr rfl | exact Or.inl rfl | trivial), by rw [decide_eq_true h1]; rfl, rfl⟩
  · exact ms_no h1 ⟨(by first | exact Or.inr rfl | exact Or.inl rfl | trivial), by rw [decide_eq_false h1]; rfl, rfl⟩
theorem ms_nle {a b : Nat} (ha : a < 2 ^ 31) (hb : b < 2 ^ 31) : (nI a ≤ nI b) ↔ a ≤ b := by
  rw [Int32.le_iff_toInt_le, nI_toInt ha, nI_toInt hb]
  omega
theorem c9_longOf {p : Int32} (h0 : md_a M 3 2 = nI n) (hn : n ≤ 120) : ms_Cl (d + 3) 163 [.ref h.length, .int p] (ms_m h M t) (some (.int (nI (md_cnt M p n)))) (ms_m h M t) := by
  refine m_X9_longOf ms_m_l ms_m_t ⟨_, ms_m_0⟩ (b_X9_longOf_0 (Q := ms_lf _ _) ?_)
  suffices H : ∀ k e, e + k = n → ms_V cd_X9_longOf none 1 (ms_Cl (d + 2)) (ms_lf (some (.int (nI (md_cnt M p n)))) (ms_m h M t)) 4 [(0, .ref h.length), (1, .int p), (2, .int (nI (md_cnt M p e))), (3, .int (nI e))] [] (ms_m h M t) from H n 0 (by omega)
  intro k
  induction k with
  | zero =>
    intro e he
    refine b_X9_longOf_4 ?_
    simp only [ms_oR_e, ms_oI_e, ms_oL_e, mm_f3, mm_r3, mm_w3]
    rw [show (2 : Int32).toNatClampNeg = 2 by decide, h0]
    refine ⟨by unfold vp_in; decide, ms_yes ((ms_nle (by omega) (by omega)).mpr (by omega)) ⟨?_, rfl⟩⟩
    rw [show e = n by omega]
  | succ k ih =>
    intro e he
    refine b_X9_longOf_4 ?_
    simp only [ms_oR_e, ms_oI_e, ms_oL_e, mm_f3, mm_r3, mm_w3]
    rw [show (2 : Int32).toNatClampNeg = 2 by decide, h0]
    refine ⟨by unfold vp_in; decide, ms_no (fun c => ?_) (ms_c1_i (c9_paperOf (by omega)) ?_)⟩
    · have := (ms_nle (by omega) (by omega)).mp c
      omega
    rw [show nI e + 1 = nI (e + 1) from ms_p1 1]
    by_cases h1 : md_a M 3 (106 + 7 * e) = p
    · refine ms_yes h1 ?_
      rw [show nI (md_cnt M p e) + 1 = nI (md_cnt M p (e + 1)) by rw [show (1 : Int32) = nI 1 from rfl, ms_p1, md_cnt, if_pos h1]]
      exact ih (e + 1) (by omega)
    · refine ms_no h1 ?_
      rw [show nI (md_cnt M p e) + 0 = nI (md_cnt M p (e + 1)) by rw [show (0 : Int32) = nI 0 from rfl, ms_p1, md_cnt, if_neg h1]]
      exact ih (e + 1) (by omega)
theorem c9_isRoom {p : Int32} (h0 : md_a M 3 2 = nI n) (hn : n ≤ 120) : ms_Cl (d + 4) 164 [.ref h.length, .int p] (ms_m h M t) (some (.int (ms_bi (decide (n < 120) && decide (md_cnt M p n < 12))))) (ms_m h M t) := by
  have hc := md_cnt_le (M := M) (p := p) n
  refine m_X9_isRoom ms_m_l ms_m_t ⟨_, ms_m_0⟩ (b_X9_isRoom_0 (Q := ms_lf _ _) ?_)
  simp only [ms_oR_e, ms_oI_e, ms_oL_e, mm_f3, mm_r3, mm_w3]
  rw [show (2 : Int32).toNatClampNeg = 2 by decide, h0]
  refine ⟨by unfold vp_in; decide, ?_⟩
  by_cases h1 : n < 120
  · refine ms_no (fun c => ?_) (ms_c1_i (c9_longOf h0 hn) ?_)
    · have := (ms_nle (a := 120) (by decide) (by omega)).mp c
      omega
    by_cases h2 : md_cnt M p n < 12
    · refine ms_no (fun c => ?_) ⟨(by first | exact Or.inr rfl | exact Or.inl rfl | trivial), by rw [decide_eq_true h1, decide_eq_true h2]; rfl, rfl⟩
      have := (ms_nle (a := 12) (by decide) (by omega)).mp c
      omega
    · exact ms_yes ((ms_nle (a := 12) (by decide) (by omega)).mpr (by omega)) ⟨(by first | exact Or.inr rfl | exact Or.inl rfl | trivial), by rw [decide_eq_true h1, decide_eq_false h2]; rfl, rfl⟩
  · exact ms_yes ((ms_nle (a := 120) (by decide) (by omega)).mpr (by omega)) ⟨(by first | exact Or.inr rfl | exact Or.inl rfl | trivial), by rw [decide_eq_false h1]; rfl, rfl⟩
def md_addE (M : md_T) (n : Nat) (p th a b c e w : Int32) : md_T := md_ua (md_lay (md_ua (md_ua M 3 (106 + 7 * n) p) 3 (106 + 7 * n + 1) th) (106 + 7 * n + 2) a b c e w) 3 2 (nI (n + 1))
theorem c9_addEntry {p th a b c e w : Int32} (h0 : md_a M 3 2 = nI n) (hn : n < 120) : ms_Cl (d + 2) 162 [.ref h.length, .int p, .int th, .int a, .int b, .int c, .int e, .int w] (ms_m h M t) none (ms_m h (md_addE M n p th a b c e w) t) := by
  refine m_X9_addEntry ms_m_l ms_m_t ⟨_, ms_m_0⟩ (b_X9_addEntry_0 (Q := ms_lf _ _) ?_)
  simp only [ms_oR_e, ms_oI_e, ms_oL_e, mm_f3, mm_r3, mm_w3]
  rw [show (2 : Int32).toNatClampNeg = 2 by decide, h0]
  refine ⟨by unfold vp_in; decide, ms_c1_i c9_entryAt ?_⟩
  rw [ms_at106]
  simp only [ms_oR_e, ms_oI_e, ms_oL_e, mm_f3, mm_r3, mm_w3]
  rw [show nI (106 + 7 * n) + 1 = nI (106 + 7 * n + 1) from ms_p1 1, show nI (106 + 7 * n) + 2 = nI (106 + 7 * n + 2) from ms_p1 2, ms_nc (show 106 + 7 * n < 2 ^ 31 by omega), ms_nc (show 106 + 7 * n + 1 < 2 ^ 31 by omega)]
  refine ⟨ms_in (by omega) (by decide), ms_in (by omega) (by decide), ms_c0_i (c9_lay (by omega)) ?_⟩
  simp only [ms_oR_e, ms_oI_e, ms_oL_e, mm_f3, mm_r3, mm_w3]
  refine ⟨by unfold vp_in; decide, by unfold vp_in; decide, rfl, ?_⟩
  rw [show (2 : Int32).toNatClampNeg = 2 by decide, md_lay_a (by omega), md_a_ne (by omega), md_a_ne (by omega), h0, show nI n + 1 = nI (n + 1) from ms_p1 1]
  rfl
def mo_entry (M : md_T) (nt np n : Nat) (p th a b c e w : Int32) : Int32 × md_T := if md_fields a b c e w then (if ms_ix np p && ms_ix nt th then (if decide (n < 120) && decide (md_cnt M p n < 12) then (nI n, md_tell (md_addE (md_ui M 0 0) n p th a b c e w) (nI n)) else (-5, md_tell (md_ui M 0 0) (-5))) else (-2, md_tell (md_ui M 0 0) (-2))) else (-1, md_tell (md_ui M 0 0) (-1))
theorem md_cnt_ui {p x : Int32} {k : Nat} (e : Nat) : md_cnt (md_ui M k x) p e = md_cnt M p e := by
  induction e with
  | zero => rfl
  | succ e ih => rw [md_cnt, md_cnt, ih, md_a_ui]
theorem c9_entry {p th a b c e w : Int32} {nt np : Nat} (ht : md_a M 3 0 = nI nt) (hp : md_a M 3 1 = nI np) (h0 : md_a M 3 2 = nI n) (hnt : nt ≤ 8) (hnp : np ≤ 16) (hn : n ≤ 120) : ms_Cl (d + 5) 165 [.ref h.length, .int p, .int th, .int a, .int b, .int c, .int e, .int w] (ms_m h M t) (some (.int (mo_entry M nt np n p th a b c e w).1)) (ms_m h (mo_entry M nt np n p th a b c e w).2 t) := by
  refine m_X9_entry ms_m_l ms_m_t ⟨_, ms_m_0⟩ (b_X9_entry_0 (Q := ms_lf _ _) ?_)
  simp only [mm_p0]
  unfold mo_entry
  refine ms_c1_i c9_areFields (ms_ifT (fun h1 => ?_) (fun h1 => ?_)) <;> rw [h1]
  · exact ms_c1_i (c9_tell (Or.inr (by unfold vp_in; decide))) ⟨rfl, rfl⟩
  rw [if_pos rfl]
  refine ms_c1_i (c9_isPaper (n := np) hp (by omega)) (ms_ifT (fun h2 => ?_) (fun h2 => ?_)) <;> rw [h2]
  · exact ms_c1_i (c9_tell (Or.inr (by unfold vp_in; decide))) ⟨rfl, rfl⟩
  refine ms_c1_i (c9_isThing (n := nt) ht (by omega)) (ms_ifT (fun h3 => ?_) (fun h3 => ?_)) <;> rw [h3]
  · exact ms_c1_i (c9_tell (Or.inr (by unfold vp_in; decide))) ⟨rfl, rfl⟩
  rw [if_pos (show (true && true) = true from rfl)]
  refine ms_c1_i (c9_isRoom (n := n) h0 hn) ?_
  rw [md_cnt_ui]
  refine ms_ifT (fun h4 => ?_) (fun h4 => ?_) <;> rw [h4]
  · exact ms_c1_i (c9_tell (Or.inr (by unfold vp_in; decide))) ⟨rfl, rfl⟩
  rw [if_pos rfl]
  have h5 : n < 120 := by
    rw [Bool.and_eq_true, decide_eq_true_eq] at h4
    exact h4.1
  refine ms_c0_i (c9_addEntry (n := n) h0 h5) ?_
  simp only [ms_oR_e, ms_oI_e, ms_oL_e, mm_f3, mm_r3, mm_w3]
  refine ⟨by unfold vp_in; decide, ?_⟩
  rw [show (2 : Int32).toNatClampNeg = 2 by decide, show md_a (md_addE (md_ui M 0 0) n p th a b c e w) 3 2 = nI (n + 1) from md_a_at, ms_nI_m1]
  exact ms_c1_i (c9_tell (Or.inl (ms_nI_0 (by omega)))) ⟨rfl, rfl⟩
theorem c9_entryOf {p i : Int32} (h0 : md_a M 3 2 = nI n) (hn : n ≤ 120) : ms_Cl (d + 3) 167 [.ref h.length, .int p, .int i] (ms_m h M t) (some (.int (md_nth M p i n))) (ms_m h M t) := by
  refine m_X9_entryOf ms_m_l ms_m_t ⟨_, ms_m_0⟩ (b_X9_entryOf_0 (Q := ms_lf _ _) ?_)
  suffices H : ∀ k e, e + k = n → ms_V cd_X9_entryOf none 1 (ms_Cl (d + 2)) (ms_lf (some (.int (md_nth M p i n))) (ms_m h M t)) 8 [(0, .ref h.length), (1, .int p), (2, .int i), (3, .int (nI (md_cnt M p e))), (4, .int (md_nth M p i e)), (5, .int (nI e))] [] (ms_m h M t) from H n 0 (by omega)
  intro k
  induction k with
  | zero =>
    intro e he
    refine b_X9_entryOf_8 ?_
    simp only [ms_oR_e, ms_oI_e, ms_oL_e, mm_f3, mm_r3, mm_w3]
    rw [show (2 : Int32).toNatClampNeg = 2 by decide, h0]
    refine ⟨by unfold vp_in; decide, ms_yes ((ms_nle (by omega) (by omega)).mpr (by omega)) ⟨?_, rfl⟩⟩
    rw [show e = n by omega]
  | succ k ih =>
    intro e he
    refine b_X9_entryOf_8 ?_
    simp only [ms_oR_e, ms_oI_e, ms_oL_e, mm_f3, mm_r3, mm_w3]
    rw [show (2 : Int32).toNatClampNeg = 2 by decide, h0]
    refine ⟨by unfold vp_in; decide, ms_no (fun c => ?_) (ms_c1_i (c9_paperOf (by omega)) ?_)⟩
    · have := (ms_nle (by omega) (by omega)).mp c
      omega
    rw [show nI e + 1 = nI (e + 1) from ms_p1 1]
    have H := ih (e + 1) (by omega)
    by_cases h1 : md_a M 3 (106 + 7 * e) = p
    · refine ms_yes h1 ?_
      rw [show nI (md_cnt M p e) + 1 = nI (md_cnt M p (e + 1)) by rw [show (1 : Int32) = nI 1 from rfl, ms_p1, md_cnt, if_pos h1]]
      by_cases h2 : nI (md_cnt M p e) = i
      · refine ms_yes h2 ?_
        rw [md_nth, if_pos ⟨h1, h2⟩] at H
        exact H
      · refine ms_no h2 ?_
        rw [md_nth, if_neg (fun c => h2 c.2)] at H
        exact H
    · refine ms_no h1 ?_
      rw [md_nth, if_neg (fun c => h1 c.1), md_cnt, if_neg h1] at H
      exact H
def mo_list (M : md_T) (np n : Nat) (p i : Int32) : Int32 := if ms_ix np p then (if i = -1 then nI (md_cnt M p n) else md_nth M p i n) else -1
theorem md_nth_ui {p i x : Int32} {k : Nat} (e : Nat) : md_nth (md_ui M k x) p i e = md_nth M p i e := by
  induction e with
  | zero => rfl
  | succ e ih => rw [md_nth, md_nth, ih, md_a_ui, md_cnt_ui]
theorem c9_list {p i : Int32} {np : Nat} (hp : md_a M 3 1 = nI np) (hnp : np ≤ 16) (h0 : md_a M 3 2 = nI n) (hn : n ≤ 120) : ms_Cl (d + 4) 169 [.ref h.length, .int p, .int i] (ms_m h M t) (some (.int (mo_list M np n p i))) (ms_m h (md_ui M 0 0) t) := by
  refine m_X9_list ms_m_l ms_m_t ⟨_, ms_m_0⟩ (b_X9_list_0 (Q := ms_lf _ _) ?_)
  simp only [mm_p0]
  unfold mo_list
  refine ms_c1_i (c9_isPaper (n := np) hp (by omega)) (ms_ifT (fun h2 => ?_) (fun h2 => ?_)) <;> rw [h2]
  · exact ⟨rfl, rfl⟩
  rw [if_pos rfl]
  by_cases h3 : i = -1
  · refine ms_yes h3 (ms_c1_i (c9_longOf (M := md_ui M 0 0) h0 hn) ?_)
    rw [md_cnt_ui, if_pos h3]
    exact ⟨rfl, rfl⟩
  · refine ms_no h3 (ms_c1_i (c9_entryOf (M := md_ui M 0 0) h0 hn) ?_)
    rw [md_nth_ui, if_neg h3]
    exact ⟨rfl, rfl⟩
end Mdn
