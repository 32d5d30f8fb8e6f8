/-! feed, counts: alike in class and model; written by wip/whole/mdl.py from simc.txt -/
theorem ms_byte (a : Int32) : 0 ≤ (a &&& 255) ∧ (a &&& 255) ≤ 255 := by
  have h1 : (a &&& 255).toBitVec.toNat ≤ 255 := by
    rw [Int32.toBitVec_and, BitVec.toNat_and]
    exact Nat.and_le_right
  have h2 : (a &&& 255).toInt = ((a &&& 255).toBitVec.toNat : Int) := by
    show (a &&& 255).toBitVec.toInt = _
    exact BitVec.toInt_eq_toNat_of_lt (by omega)
  have h0 : (0 : Int32).toInt = 0 := by decide
  have h3 : (255 : Int32).toInt = 255 := by decide
  constructor
  · apply Int32.le_iff_toInt_le.mpr
    omega
  · apply Int32.le_iff_toInt_le.mpr
    omega
section Simc
variable {X : cx_T} {M : md_T}
theorem RX_by {a k : Int32} (h : RX X M) (hn : ∃ n, n < 400 ∧ cx_i X 1 1 = nI n) : RX (co_by X (md_sh a k)) (md_by M (md_sh a k)) := by
  obtain ⟨hb, a0, b0, ⟨c1, _⟩, e, f⟩ := h
  obtain ⟨n, hn, c2⟩ := hn
  have hx := ms_byte (a >>> (k &&& 31))
  refine ⟨hb, ?_, b0, ⟨?_, ?_⟩, fun j => ?_, ?_⟩
  · show cx_i (cx_ui X 1 1 (cx_i X 1 1 + 1)) 0 11 = md_i (md_ui M 8 (md_i M 8 + 1)) 1
    rw [cx_i_ui (by decide), md_i_ne (by decide)]
    exact a0
  · unfold co_by md_by
    rw [cx_i_at, md_i_at, c1]
  · unfold co_by
    rw [cx_i_at, c2]
    exact ⟨n + 1, by omega, ms_p1 1⟩
  · show cx_a (cx_ua X 2 (cx_i X 1 1).toNatClampNeg (md_sh a k)) 2 j = md_a (md_ua M 7 (md_i M 8).toNatClampNeg (md_sh a k)) 7 j ∧ 0 ≤ cx_a (cx_ua X 2 (cx_i X 1 1).toNatClampNeg (md_sh a k)) 2 j ∧ cx_a (cx_ua X 2 (cx_i X 1 1).toNatClampNeg (md_sh a k)) 2 j ≤ 255
    rw [cx_a_ua, md_a_ua, ← c1]
    by_cases h1 : (2 : Nat) = 2 ∧ j = (cx_i X 1 1).toNatClampNeg
    · rw [if_pos h1, if_pos ⟨rfl, h1.2⟩]
      exact ⟨rfl, hx⟩
    · rw [if_neg h1, if_neg (fun z => h1 ⟨rfl, z.2⟩)]
      exact e j
  · show cx_i (cx_ui X 1 1 (cx_i X 1 1 + 1)) 0 12 = md_i (md_ui M 8 (md_i M 8 + 1)) 13
    rw [cx_i_ui (by decide), md_i_ne (by decide)]
    exact f
theorem RX_four {a : Int32} {n : Nat} (h : RX X M) (hn : n + 4 ≤ 400) (h0 : cx_i X 1 1 = nI n) : RX (co_four X a) (md_four M a) ∧ cx_i (co_four X a) 1 1 = nI (n + 4) := by
  refine ⟨?_, co_four_1 h0⟩
  have h1 := co_by_1 (x := md_sh a 24) h0
  have h2 := co_by_1 (x := md_sh a 16) h1
  have h3 := co_by_1 (x := md_sh a 8) h2
  exact RX_by (RX_by (RX_by (RX_by h ⟨n, by omega, h0⟩) ⟨n + 1, by omega, h1⟩) ⟨n + 2, by omega, h2⟩) ⟨n + 3, by omega, h3⟩
/-- feed: alike -/
theorem S_feed {a b c e f : Int32} {n : Nat} (h : RX X M) (h0 : cx_i X 1 1 = nI n) : (co_feed X n a b c e f).1 = (mo_feed M n a b c e f).1 ∧ RX (co_feed X n a b c e f).2 (mo_feed M n a b c e f).2 := by
  unfold co_feed mo_feed
  by_cases h1 : n + 20 ≤ 400
  · rw [if_pos h1, if_pos h1]
    obtain ⟨r1, k1⟩ := RX_four (a := a) (RX_ui0 h (x := 0)) (by omega) h0
    obtain ⟨r2, k2⟩ := RX_four (a := b) r1 (by omega) k1
    obtain ⟨r3, k3⟩ := RX_four (a := c) r2 (by omega) k2
    obtain ⟨r4, k4⟩ := RX_four (a := e) r3 (by omega) k3
    obtain ⟨r5, k5⟩ := RX_four (a := f) r4 (by omega) k4
    exact ⟨rfl, r5⟩
  · rw [if_neg h1, if_neg h1]
    exact ⟨rfl, RX_ui0 h⟩
/-- count: alike -/
theorem S_count {v : Int32} (h : RX X M) : co_count X v = mo_count M v := by
  obtain ⟨⟨_, ⟨k0, k1, k2, k3⟩, _⟩, _, ⟨b0, b1, b2, b3, b4⟩, ⟨c1, _⟩, _, _⟩ := h
  unfold co_count mo_count
  by_cases h0 : v = 0
  · rw [if_pos h0, if_pos h0, k0]
  rw [if_neg h0, if_neg h0]
  by_cases h1 : v = 1
  · rw [if_pos h1, if_pos h1, k1]
  rw [if_neg h1, if_neg h1]
  by_cases h2 : v = 2
  · rw [if_pos h2, if_pos h2, k2]
  rw [if_neg h2, if_neg h2]
  by_cases h3 : v = 3
  · rw [if_pos h3, if_pos h3, k3]
  rw [if_neg h3, if_neg h3]
  by_cases h4 : v = 4
  · rw [if_pos h4, if_pos h4, c1]
  rw [if_neg h4, if_neg h4]
  by_cases h5 : v = 5
  · rw [if_pos h5, h5]
    exact b0
  rw [if_neg h5]
  by_cases h6 : v = 6
  · rw [if_pos h6, h6]
    exact b1
  rw [if_neg h6]
  by_cases h7 : v = 7
  · rw [if_pos h7, h7]
    exact b2
  rw [if_neg h7]
  by_cases h8 : v = 8
  · rw [if_pos h8, h8]
    exact b3
  rw [if_neg h8]
  by_cases h9 : v = 9
  · rw [if_pos h9, h9]
    exact b4
  rw [if_neg h9]
  refine if_neg (fun z => ?_)
  obtain ⟨j, hj, e1, _⟩ := sl_in_k (k := 4) (by decide) z
  have e2 : v = nI j + 5 := by
    rw [← e1]
    exact (Int32.sub_add_cancel v 5).symm
  match j, hj with
  | 0, _ => exact h5 e2
  | 1, _ => exact h6 e2
  | 2, _ => exact h7 e2
  | 3, _ => exact h8 e2
  | 4, _ => exact h9 e2
theorem S_status (h : RX X M) : cx_i X 0 11 = md_i M 1 := h.2.1
theorem S_fault (h : RX X M) : cx_i X 0 12 = md_i M 13 := h.2.2.2.2.2
end Simc
