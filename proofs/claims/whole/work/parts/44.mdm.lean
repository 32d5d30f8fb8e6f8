/-! CONTRACTS: the model's thing, paper, entry and lists: written by wip/whole/mdl.py from mdm.txt -/
theorem md_a_ui {M : md_T} {k j n : Nat} {x : Int32} : md_a (md_ui M k x) j n = md_a M j n := rfl
theorem md_i_ua {M : md_T} {k j n : Nat} {x : Int32} : md_i (md_ua M k n x) j = md_i M j := rfl
theorem md_a_ua {M : md_T} {k j n m : Nat} {x : Int32} : md_a (md_ua M k n x) j m = if j = k ∧ m = n then x else md_a M j m := by
  unfold md_a md_ua
  by_cases h1 : j = k
  · simp only [h1, if_true, true_and]
    rfl
  · simp only [h1, if_false, false_and]
theorem md_a_at {M : md_T} {k n : Nat} {x : Int32} : md_a (md_ua M k n x) k n = x := by rw [md_a_ua, if_pos ⟨rfl, rfl⟩]
theorem md_a_ne {M : md_T} {k n m : Nat} {x : Int32} (h : m ≠ n) : md_a (md_ua M k n x) k m = md_a M k m := by rw [md_a_ua, if_neg (fun e => h e.2)]
theorem ms_p1 {p : Nat} (k : Nat) : nI p + nI k = nI (p + k) := (Int32.ofNat_add p k).symm
def md_lay (M : md_T) (p : Nat) (a b c e w : Int32) : md_T := md_ua (md_ua (md_ua (md_ua (md_ua M 3 p a) 3 (p + 1) b) 3 (p + 2) c) 3 (p + 3) e) 3 (p + 4) w
section Mdm
variable {d : Nat} {h t : ms_S} {M : md_T} {n : Nat}
theorem c9_lay {p : Nat} {a b c e w : Int32} (hp : p + 4 < 18906) : ms_Cl (d + 1) 158 [.ref h.length, .int (nI p), .int a, .int b, .int c, .int e, .int w] (ms_m h M t) none (ms_m h (md_lay M p a b c e w) t) := by
  refine m_X9_lay ms_m_l ms_m_t ⟨_, ms_m_0⟩ (b_X9_lay_0 ?_)
  simp only [ms_oR_e, ms_oI_e, ms_oL_e, mm_f3, mm_r3, mm_w3]
  rw [show nI p + 1 = nI (p + 1) from ms_p1 1, show nI p + 2 = nI (p + 2) from ms_p1 2, show nI p + 3 = nI (p + 3) from ms_p1 3, show nI p + 4 = nI (p + 4) from ms_p1 4]
  rw [ms_nc (show p < 2 ^ 31 by omega), ms_nc (show p + 1 < 2 ^ 31 by omega), ms_nc (show p + 2 < 2 ^ 31 by omega), ms_nc (show p + 3 < 2 ^ 31 by omega), ms_nc (show p + 4 < 2 ^ 31 by omega)]
  exact ⟨ms_in (by omega) (by decide), ms_in (by omega) (by decide), ms_in (by omega) (by decide), ms_in (by omega) (by decide), ms_in (by omega) (by decide), trivial, rfl⟩
theorem md_lay_a {p m : Nat} {a b c e w : Int32} (hm : m < p ∨ p + 4 < m) : md_a (md_lay M p a b c e w) 3 m = md_a M 3 m := by
  unfold md_lay
  rw [md_a_ne (by omega), md_a_ne (by omega), md_a_ne (by omega), md_a_ne (by omega), md_a_ne (by omega)]
theorem ms_at10 : (10 : Int32) + 6 * nI n = nI (10 + 6 * n) := by
  show nI 10 + nI 6 * nI n = _
  rw [nI_mul, ms_p1]
theorem ms_at58 : (58 : Int32) + 3 * nI n = nI (58 + 3 * n) := by
  show nI 58 + nI 3 * nI n = _
  rw [nI_mul, ms_p1]
theorem ms_at106 : (106 : Int32) + 7 * nI n = nI (106 + 7 * n) := by
  show nI 106 + nI 7 * nI n = _
  rw [nI_mul, ms_p1]
theorem ms_nI_m1 : nI (n + 1) - 1 = nI n := by
  rw [← ms_p1]
  exact Int32.add_sub_cancel _ _
theorem ms_nI_0 (hn : n < 2 ^ 31) : 0 ≤ nI n := by
  apply Int32.le_iff_toInt_le.mpr
  have := nI_toInt hn
  have h0 : (0 : Int32).toInt = 0 := by decide
  omega
theorem ms_nI_eq {m : Nat} (hn : n < 2 ^ 31) (hm : m < 2 ^ 31) : (nI n = nI m) = (n = m) := by
  refine propext ⟨fun e => ?_, fun e => by rw [e]⟩
  have := congrArg Int32.toNatClampNeg e
  rwa [ms_nc hn, ms_nc hm] at this
def mo_thing (M : md_T) (n : Nat) (a b c e w u : Int32) : Int32 × md_T := if md_fields a b c e w && md_in u 0 1 then (if n = 8 then (-5, md_tell (md_ui M 0 0) (-5)) else (nI n, md_tell (md_ua (md_ua (md_lay (md_ui M 0 0) (10 + 6 * n) a b c e w) 3 (10 + 6 * n + 5) u) 3 0 (nI (n + 1))) (nI n))) else (-1, md_tell (md_ui M 0 0) (-1))
theorem c9_thing {a b c e w u : Int32} (h0 : md_a M 3 0 = nI n) (hn : n ≤ 8) : ms_Cl (d + 3) 159 [.ref h.length, .int a, .int b, .int c, .int e, .int w, .int u] (ms_m h M t) (some (.int (mo_thing M n a b c e w u).1)) (ms_m h (mo_thing M n a b c e w u).2 t) := by
  refine m_X9_thing ms_m_l ms_m_t ⟨_, ms_m_0⟩ (b_X9_thing_0 ?_)
  simp only [mm_p0]
  unfold mo_thing
  refine ms_c1_i c9_areFields (ms_ifT (fun h1 => ?_) (fun h1 => ?_)) <;> rw [h1]
  · exact ms_c1_i (c9_tell (Or.inr (by unfold vp_in; decide))) ⟨rfl, rfl⟩
  refine ms_c1_i (c9_inI 0 1 (by decide) (by decide)) (ms_ifT (fun h2 => ?_) (fun h2 => ?_)) <;> rw [h2]
  · exact ms_c1_i (c9_tell (Or.inr (by unfold vp_in; decide))) ⟨rfl, rfl⟩
  simp only [ms_oR_e, ms_oI_e, ms_oL_e, mm_f3, mm_r3, mm_w3]
  refine ⟨by unfold vp_in; decide, ?_⟩
  rw [show (0 : Int32).toNatClampNeg = 0 by decide, md_a_ui, h0]
  by_cases h8 : n = 8
  · rw [if_pos (show (true && true) = true from rfl), if_pos h8]
    refine ms_yes (by rw [h8]; rfl) ?_
    exact ms_c1_i (c9_tell (Or.inr (by unfold vp_in; decide))) ⟨rfl, rfl⟩
  · rw [if_pos (show (true && true) = true from rfl), if_neg h8]
    refine ms_no (fun e => h8 ?_) ⟨by unfold vp_in; decide, ?_⟩
    · rwa [show (8 : Int32) = nI 8 from rfl, ms_nI_eq (by omega) (by decide)] at e
    refine ms_c1_i c9_thingAt ?_
    rw [ms_at10]
    refine ms_c0_i (c9_lay (by omega)) ?_
    simp only [ms_oR_e, ms_oI_e, ms_oL_e, mm_f3, mm_r3, mm_w3]
    rw [show nI (10 + 6 * n) + 5 = nI (10 + 6 * n + 5) from ms_p1 5, ms_nc (show 10 + 6 * n + 5 < 2 ^ 31 by omega)]
    refine ⟨ms_in (by omega) (by decide), by unfold vp_in; decide, by unfold vp_in; decide, by unfold vp_in; decide, ?_⟩
    rw [show (0 : Int32).toNatClampNeg = 0 by decide, md_a_at, md_a_ne (by omega), md_lay_a (by omega), md_a_ui, h0, show nI n + 1 = nI (n + 1) from ms_p1 1, ms_nI_m1]
    exact ms_c1_i (c9_tell (Or.inl (ms_nI_0 (by omega)))) ⟨rfl, rfl⟩
def md_addP (M : md_T) (n : Nat) (a b c : Int32) : md_T := md_ua (md_ua (md_ua (md_ua M 3 (58 + 3 * n) a) 3 (58 + 3 * n + 1) b) 3 (58 + 3 * n + 2) c) 3 1 (nI (n + 1))
theorem c9_addPaper {a b c : Int32} (h0 : md_a M 3 1 = nI n) (hn : n < 16) : ms_Cl (d + 2) 161 [.ref h.length, .int a, .int b, .int c] (ms_m h M t) none (ms_m h (md_addP M n a b c) t) := by
  refine m_X9_addPaper ms_m_l ms_m_t ⟨_, ms_m_0⟩ (b_X9_addPaper_0 ?_)
  simp only [ms_oR_e, ms_oI_e, ms_oL_e, mm_f3, mm_r3, mm_w3]
  rw [show (1 : Int32).toNatClampNeg = 1 by decide, h0]
  refine ⟨by unfold vp_in; decide, ms_c1_i c9_paperAt ?_⟩
  rw [ms_at58]
  simp only [ms_oR_e, ms_oI_e, ms_oL_e, mm_f3, mm_r3, mm_w3]
  rw [show nI (58 + 3 * n) + 1 = nI (58 + 3 * n + 1) from ms_p1 1, show nI (58 + 3 * n) + 2 = nI (58 + 3 * n + 2) from ms_p1 2, ms_nc (show 58 + 3 * n < 2 ^ 31 by omega), ms_nc (show 58 + 3 * n + 1 < 2 ^ 31 by omega), ms_nc (show 58 + 3 * n + 2 < 2 ^ 31 by omega), show (1 : Int32).toNatClampNeg = 1 by decide]
  refine ⟨ms_in (by omega) (by decide), ms_in (by omega) (by decide), ms_in (by omega) (by decide), by unfold vp_in; decide, by unfold vp_in; decide, trivial, ?_⟩
  rw [md_a_ne (by omega), md_a_ne (by omega), md_a_ne (by omega), h0, show nI n + 1 = nI (n + 1) from ms_p1 1]
  rfl
def mo_paper (M : md_T) (n : Nat) (a b c : Int32) : Int32 × md_T := if md_in a 0 399 && (md_in b 0 7 && md_in c 0 99) then (if n = 16 then (-5, md_tell (md_ui M 0 0) (-5)) else (nI n, md_tell (md_addP (md_ui M 0 0) n a b c) (nI n))) else (-1, md_tell (md_ui M 0 0) (-1))
theorem c9_paper {a b c : Int32} (h0 : md_a M 3 1 = nI n) (hn : n ≤ 16) : ms_Cl (d + 3) 160 [.ref h.length, .int a, .int b, .int c] (ms_m h M t) (some (.int (mo_paper M n a b c).1)) (ms_m h (mo_paper M n a b c).2 t) := by
  refine m_X9_paper ms_m_l ms_m_t ⟨_, ms_m_0⟩ (b_X9_paper_0 ?_)
  simp only [mm_p0]
  unfold mo_paper
  refine ms_c1_i (c9_inI 0 399 (by decide) (by decide)) (ms_ifT (fun h1 => ?_) (fun h1 => ?_)) <;> rw [h1]
  · exact ms_c1_i (c9_tell (Or.inr (by unfold vp_in; decide))) ⟨rfl, rfl⟩
  refine ms_c1_i (c9_inI 0 7 (by decide) (by decide)) (ms_ifT (fun h2 => ?_) (fun h2 => ?_)) <;> rw [h2]
  · exact ms_c1_i (c9_tell (Or.inr (by unfold vp_in; decide))) ⟨rfl, rfl⟩
  refine ms_c1_i c9_isDay (ms_ifT (fun h3 => ?_) (fun h3 => ?_)) <;> rw [h3]
  · exact ms_c1_i (c9_tell (Or.inr (by unfold vp_in; decide))) ⟨rfl, rfl⟩
  simp only [ms_oR_e, ms_oI_e, ms_oL_e, mm_f3, mm_r3, mm_w3]
  refine ⟨by unfold vp_in; decide, ?_⟩
  rw [show (1 : Int32).toNatClampNeg = 1 by decide, md_a_ui, h0, if_pos (show (true && (true && true)) = true from rfl)]
  by_cases h8 : n = 16
  · rw [if_pos h8]
    refine ms_yes (by rw [h8]; rfl) ?_
    exact ms_c1_i (c9_tell (Or.inr (by unfold vp_in; decide))) ⟨rfl, rfl⟩
  · rw [if_neg h8]
    refine ms_no (fun e => h8 ?_) ?_
    · rwa [show (16 : Int32) = nI 16 from rfl, ms_nI_eq (by omega) (by decide)] at e
    refine ms_c0_i (c9_addPaper (n := n) (by rw [md_a_ui, h0]) (by omega)) ?_
    simp only [ms_oR_e, ms_oI_e, ms_oL_e, mm_f3, mm_r3, mm_w3]
    refine ⟨by unfold vp_in; decide, ?_⟩
    rw [show (1 : Int32).toNatClampNeg = 1 by decide, show md_a (md_addP (md_ui M 0 0) n a b c) 3 1 = nI (n + 1) from md_a_at, ms_nI_m1]
    exact ms_c1_i (c9_tell (Or.inl (ms_nI_0 (by omega)))) ⟨rfl, rfl⟩
theorem ms_ix_d {v : Int32} (hn : n < 2 ^ 31) : ms_ix n v = (decide (0 ≤ v) && decide (v < nI n)) := by
  unfold ms_ix
  have h1 := nI_toInt hn
  have h0 : (0 : Int32).toInt = 0 := by decide
  rw [decide_eq_decide.mpr (show (0 ≤ v.toInt) ↔ (0 ≤ v) by rw [Int32.le_iff_toInt_le, h0]), decide_eq_decide.mpr (show (v.toInt < n) ↔ (v < nI n) by rw [Int32.lt_iff_toInt_lt, h1])]
theorem ms_ltm {v : Int32} (hn : n < 2 ^ 31) : (Int32.toInt64 v ≤ Int32.toInt64 (nI n) - 1) ↔ v < nI n := by
  rw [Int64.le_iff_toInt_le, Int32.lt_iff_toInt_lt]
  have h1 := nI_toInt hn
  have h2 : (Int32.toInt64 (nI n) - 1).toInt = (nI n).toInt - 1 := by
    have h3 : (nI n).toInt64 - 1 = Int64.ofInt ((nI n).toInt - 1) := by
      rw [h1]
      apply Int64.toInt_inj.mp
      rw [Int64.toInt_sub, Int32.toInt_toInt64, h1, Int64.toInt_ofInt]
      rfl
    rw [h3, h1, Int64.toInt_ofInt]
    have hs : ((Int64.size : Nat) : Int) = 18446744073709551616 := rfl
    apply Int.bmod_eq_of_le <;> omega
  rw [h2, Int32.toInt_toInt64]
  omega
theorem c9_inN {v : Int32} {g : ms_S} (hn : n < 2 ^ 31) : ms_Cl (d + 1) 141 [.long (Int32.toInt64 v), .long 0, .long (Int32.toInt64 (nI n) - 1)] g (some (.int (ms_bi (ms_ix n v)))) g := by
  have := c9_in (d := d) (g := g) (v := Int32.toInt64 v) (lo := 0) (hi := Int32.toInt64 (nI n) - 1)
  rw [decide_eq_decide.mpr (ms_ltm hn), show (0 : Int64) = Int32.toInt64 0 by decide, decide_eq_decide.mpr ms_i64, show Int32.toInt64 0 = (0 : Int64) by decide, ← ms_ix_d hn] at this
  exact this
theorem c9_isThing {v : Int32} (h0 : md_a M 3 0 = nI n) (hn : n < 2 ^ 31) : ms_Cl (d + 2) 146 [.ref h.length, .int v] (ms_m h M t) (some (.int (ms_bi (ms_ix n v)))) (ms_m h M t) := by
  refine m_X9_isThing ms_m_l ms_m_t ⟨_, ms_m_0⟩ (b_X9_isThing_0 ?_)
  simp only [ms_oR_e, ms_oI_e, ms_oL_e, mm_f3, mm_r3, mm_w3]
  rw [show (0 : Int32).toNatClampNeg = 0 by decide, h0]
  exact ⟨by unfold vp_in; decide, ms_c1_i (c9_inN hn) ⟨ms_bi_01 _, rfl, rfl⟩⟩
theorem c9_isPaper {v : Int32} (h0 : md_a M 3 1 = nI n) (hn : n < 2 ^ 31) : ms_Cl (d + 2) 147 [.ref h.length, .int v] (ms_m h M t) (some (.int (ms_bi (ms_ix n v)))) (ms_m h M t) := by
  refine m_X9_isPaper ms_m_l ms_m_t ⟨_, ms_m_0⟩ (b_X9_isPaper_0 ?_)
  simp only [ms_oR_e, ms_oI_e, ms_oL_e, mm_f3, mm_r3, mm_w3]
  rw [show (1 : Int32).toNatClampNeg = 1 by decide, h0]
  exact ⟨by unfold vp_in; decide, ms_c1_i (c9_inN hn) ⟨ms_bi_01 _, rfl, rfl⟩⟩
theorem c9_isEntry {v : Int32} (h0 : md_a M 3 2 = nI n) (hn : n < 2 ^ 31) : ms_Cl (d + 2) 148 [.ref h.length, .int v] (ms_m h M t) (some (.int (ms_bi (ms_ix n v)))) (ms_m h M t) := by
  refine m_X9_isEntry ms_m_l ms_m_t ⟨_, ms_m_0⟩ (b_X9_isEntry_0 ?_)
  simp only [ms_oR_e, ms_oI_e, ms_oL_e, mm_f3, mm_r3, mm_w3]
  rw [show (2 : Int32).toNatClampNeg = 2 by decide, h0]
  exact ⟨by unfold vp_in; decide, ms_c1_i (c9_inN hn) ⟨ms_bi_01 _, rfl, rfl⟩⟩
end Mdm
