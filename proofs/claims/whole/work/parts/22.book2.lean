/-! CONTRACTS: Book, further reads -/
def bk_eAt (B : bk_T) (p q : Int32) : Int32 := bif ms_ix 12 q && !decide (bk_of (bk_pc B) 4 (bk_pa B) p 3 ≤ q) then bk_li B (p.toNatClampNeg * 12 + q.toNatClampNeg) else -1
def bk_room (B : bk_T) (p : Int32) : Bool := decide (bk_ec B < 120) && !decide (12 ≤ bk_of (bk_pc B) 4 (bk_pa B) p 3)
def bk_gh (B : bk_T) (t : Int32) : Bool := ms_ix (bk_tc B) t && decide (bk_th B (t.toNatClampNeg * 6 + 5) = 1)
def bk_seen (B : bk_T) (p day : Int32) : Bool := !decide (99 < day) && (ms_ix (bk_pc B) p && !decide (day < bk_of (bk_pc B) 4 (bk_pa B) p 2))
def bk_txt (B : bk_T) (i : Int32) : Option Nat := bif ms_ix (bk_xc B) i then bk_tx B i.toNatClampNeg else none
theorem ms_ix_0 {n : Nat} {p : Int32} (h : ms_ix n p = true) : ¬ p < 0 := fun e => by rw [ms_ix_lt0 e] at h; cases h
theorem ms_ix_n {n : Nat} {p : Int32} (hn : n < 2 ^ 31) (h : ms_ix n p = true) : ¬ nI n ≤ p := fun e => by rw [ms_ix_ge hn e] at h; cases h
theorem ms_neg1_le {q : Int32} (h : ¬ q < 0) : (-1 : Int32) ≤ q := by
  have h2 := mt Int32.lt_iff_toInt_lt.mpr h
  have h3 : (0 : Int32).toInt = 0 := by decide
  have h4 : (-1 : Int32).toInt = -1 := by decide
  apply Int32.le_iff_toInt_le.mpr
  omega
section Bk2
variable {d b : Nat} {g : ms_S} {B : bk_T} {p q w : Int32}
theorem c_entryAt (h : bk g b B) : ms_Cl (d + 3) 14 [.ref b, .int p, .int q] g (some (.int (bk_eAt B p q))) g := by
  have hc : bk_pc B ≤ 16 := h.2.2.2.2.2.2.2.1
  refine m_X0_entryAt (Nat.le_refl _) (Nat.le_refl _) h.rc (b_X0_entryAt_0 ?_)
  by_cases h0 : q < 0
  · refine ms_yes h0 ?_; rw [bk_eAt, ms_ix_lt0 h0]; exact ⟨rfl, rfl⟩
  · refine ms_no h0 ?_
    by_cases h1 : nI 12 ≤ q
    · refine ms_yes h1 ?_; rw [bk_eAt, ms_ix_ge (by decide) h1]; exact ⟨rfl, rfl⟩
    · refine ms_no h1 ?_
      have hq := ms_ix_in (by decide) h0 h1
      refine ⟨_, _, c_ofPaper h, ?_⟩
      by_cases h2 : bk_of (bk_pc B) 4 (bk_pa B) p 3 ≤ q
      · refine ms_yes h2 ?_
        simp [bk_eAt, hq, h2, decide_true, Bool.not_true, Bool.and_false, cond_false, ms_bi]
      · refine ms_no h2 ?_
        simp only [bk_eAt, hq, h2, decide_false, Bool.not_false, Bool.and_true, cond_true]
        cases hp : ms_ix (bk_pc B) p with
        | false => exact absurd (by rw [bk_ofF1 hp]; exact ms_neg1_le h0) h2
        | true =>
          obtain ⟨k, k1, k2, k3, k4⟩ := ms_ix_k hp
          obtain ⟨j, j1, j2, j3, j4⟩ := ms_ix_k hq
          have e : p * 12 + q = nI (k * 12 + j) := by rw [k2, j2, show (12 : Int32) = nI 12 from rfl, nI_mul, nI_add]
          refine ms_oR_i (ms_fldR_of h.1 rfl) ?_
          rw [e]
          refine ms_rI_i h.2.2.2.1 (ms_in (by omega) (by decide)) ?_
          rw [ms_nc (by omega), k3, j3]
          simp
theorem c_hasRoomIn (h : bk g b B) : ms_Cl (d + 3) 6 [.ref b, .int p] g (some (.int (ms_bi (bk_room B p)))) g := by
  have hc : bk_ec B ≤ 120 := h.2.2.2.2.2.2.2.2.1
  refine m_X0_hasRoomIn (Nat.le_refl _) (Nat.le_refl _) h.rc (b_X0_hasRoomIn_0 (ms_oI_i (ms_fldI_of h.1 rfl) ?_))
  by_cases h0 : nI 120 ≤ nI (bk_ec B)
  · refine ms_yes h0 ?_
    have h1 := (nI_leI (by decide) (by omega)).mp h0
    have h2 : ¬ bk_ec B < 120 := by omega
    simp [bk_room, h2, decide_false, Bool.false_and, ms_bi]
  · refine ms_no h0 ?_
    have h1 := mt (nI_leI (by decide) (by omega)).mpr h0
    have h2 : bk_ec B < 120 := by omega
    refine ⟨_, _, c_ofPaper h, ?_⟩
    by_cases h3 : 12 ≤ bk_of (bk_pc B) 4 (bk_pa B) p 3
    · refine ms_yes h3 ?_
      simp [bk_room, h2, h3, decide_true, Bool.not_true, Bool.and_false, ms_bi]
    · refine ms_no h3 ?_
      simp [bk_room, h2, h3, decide_true, decide_false, Bool.not_false, Bool.and_true, ms_bi]
theorem c_isGhost (h : bk g b B) : ms_Cl (d + 2) 8 [.ref b, .int p] g (some (.int (ms_bi (bk_gh B p)))) g := by
  have hc : bk_tc B ≤ 8 := h.2.2.2.2.2.2.1
  refine m_X0_isGhost (Nat.le_refl _) (Nat.le_refl _) h.rc (b_X0_isGhost_0 ⟨_, _, c_hasThing h, ?_⟩)
  cases hp : ms_ix (bk_tc B) p with
  | false => refine ms_yes (ms_bi_0.mpr rfl) ?_; simp [bk_gh, hp, Bool.false_and, ms_bi]
  | true =>
    refine ms_no (fun e => by cases ms_bi_0.mp e) ?_
    obtain ⟨k, k1, k2, k3, k4⟩ := ms_ix_k hp
    have e : p * 6 + 5 = nI (k * 6 + 5) := by rw [k2, show (6 : Int32) = nI 6 from rfl, nI_mul, show (5 : Int32) = nI 5 from rfl, nI_add]
    refine ms_oR_i (ms_fldR_of h.1 rfl) ?_
    rw [e]
    refine ms_rI_i h.2.1 (ms_in (by omega) (by decide)) ?_
    rw [ms_nc (by omega)]
    by_cases h5 : bk_th B (k * 6 + 5) = 1
    · refine ms_yes h5 ?_
      simp [bk_gh, hp, k3, h5, decide_true, Bool.and_true, ms_bi]
    · refine ms_no h5 ?_
      simp [bk_gh, hp, k3, h5, decide_false, Bool.and_false, ms_bi]
theorem c_isSeen (h : bk g b B) : ms_Cl (d + 3) 9 [.ref b, .int p, .int q] g (some (.int (ms_bi (bk_seen B p q)))) g := by
  refine m_X0_isSeen (Nat.le_refl _) (Nat.le_refl _) h.rc (b_X0_isSeen_0 ?_)
  by_cases h0 : 99 < q
  · refine ms_yes h0 ?_
    simp [bk_seen, h0, decide_true, Bool.not_true, Bool.false_and, ms_bi]
  · refine ms_no h0 ?_
    refine ⟨_, _, ms_Cl_mono (by omega) (c_hasPaper (d := d) h), ?_⟩
    cases hp : ms_ix (bk_pc B) p with
    | false =>
      refine ms_yes (ms_bi_0.mpr rfl) ?_
      simp [bk_seen, hp, Bool.false_and, Bool.and_false, ms_bi]
    | true =>
      refine ms_no (fun e => by cases ms_bi_0.mp e) ?_
      refine ⟨_, _, c_ofPaper h, ?_⟩
      by_cases h3 : q < bk_of (bk_pc B) 4 (bk_pa B) p 2
      · refine ms_yes h3 ?_
        simp [bk_seen, h0, hp, h3, decide_true, decide_false, Bool.not_true, Bool.and_false, ms_bi]
      · refine ms_no h3 ?_
        simp [bk_seen, h0, hp, h3, decide_false, Bool.not_false, Bool.and_true, ms_bi]
theorem c_textAt (h : bk g b B) : ms_Cl (d + 1) 15 [.ref b, .int p] g (some (va_rf (bk_txt B p))) g := by
  have hc : bk_xc B ≤ 20 := h.2.2.2.2.2.2.2.2.2
  refine m_X0_textAt (Nat.le_refl _) (Nat.le_refl _) h.rc (b_X0_textAt_0 ?_)
  by_cases h0 : p < 0
  · refine ms_yes h0 ?_; simp [bk_txt, ms_ix_lt0 h0, va_rf]
  · refine ms_no h0 ?_
    refine ms_oI_i (ms_fldI_of h.1 rfl) ?_
    by_cases h1 : nI (bk_xc B) ≤ p
    · refine ms_yes h1 ?_; simp [bk_txt, ms_ix_ge (show bk_xc B < 2 ^ 31 by omega) h1, va_rf]
    · refine ms_no h1 ?_; refine ms_no (fun h2 => h1 (ms_nI_le (n := 20) hc (by decide) h2)) ?_
      have hp := ms_ix_in (by omega) h0 h1
      obtain ⟨k, k1, k2, k3, k4⟩ := ms_ix_k hp
      refine ms_oR_i (ms_fldR_of h.1 rfl) ?_
      refine ms_rA_i h.2.2.2.2.2.1 rfl (by rw [k2]; exact ms_in (by omega) (by decide)) ?_
      simp only [bk_txt, hp, cond_true]
      cases bk_tx B p.toNatClampNeg with
      | none => simp [va_rf]
      | some x => simp [va_rf]
end Bk2
