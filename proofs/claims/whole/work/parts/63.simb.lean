/-! entry, of, list, tape, counts: alike in class and model; written by wip/whole/mdl.py from simb.txt -/
section Simb
variable {X : cx_T} {M : md_T} {B : bk_T} {r : Nat → Int32}
theorem room_rc {p : Nat} (h : RB B r) (hp : p < bk_pc B) : bk_room B (nI p) = (decide (bk_ec B < 120) && decide (rc r (nI p) (bk_ec B) < 12)) := by
  have hpc : bk_pc B ≤ 16 := h.1.2.1
  obtain ⟨h12, e⟩ := h.2.2.2.2.1 p hp
  unfold bk_room bk_of
  rw [ms_ix_nI (by omega), decide_eq_true hp, ms_nc (by omega)]
  rw [show (bif true && ms_ix 4 3 then bk_pa B (p * 4 + (3 : Int32).toNatClampNeg) else -1) = bk_pa B (p * 4 + 3) from rfl, e, ← decide_not]
  rw [decide_eq_decide.mpr (show (¬ (12 : Int32) ≤ nI (rc r (nI p) (bk_ec B))) ↔ rc r (nI p) (bk_ec B) < 12 by rw [show (12 : Int32) = nI 12 from rfl, ms_nle (by decide) (by omega)]; omega)]
theorem S_entry {p th a b c e w : Int32} (h : RX X M) : (co_entry X p th a b c e w).1 = (mo_entry M (bk_tc (cx_b X 6)) (bk_pc (cx_b X 6)) (bk_ec (cx_b X 6)) p th a b c e w).1 ∧ RX (co_entry X p th a b c e w).2 (mo_entry M (bk_tc (cx_b X 6)) (bk_pc (cx_b X 6)) (bk_ec (cx_b X 6)) p th a b c e w).2 := by
  unfold co_entry mo_entry
  rw [md_fields_sl]
  by_cases h1 : (sl_fs a b c e && sl_in w 9) = true
  · rw [if_pos h1, if_pos h1]
    by_cases h2 : (ms_ix (bk_pc (cx_b X 6)) p && ms_ix (bk_tc (cx_b X 6)) th) = true
    · rw [if_pos h2, if_pos h2]
      rw [ms_and_b] at h2
      obtain ⟨k, hk, e1, e2, _⟩ := ms_ix_k h2.1
      obtain ⟨j, hj, f1, f2, _⟩ := ms_ix_k h2.2
      rw [e2, e1, f1, room_rc h.1 hk, md_cnt_rc]
      by_cases h3 : (decide (bk_ec (cx_b X 6) < 120) && decide (rc (md_a M 3) (nI k) (bk_ec (cx_b X 6)) < 12)) = true
      · rw [if_pos h3, if_pos h3]
        rw [ms_and_b, decide_eq_true_eq, decide_eq_true_eq] at h3
        refine ⟨rfl, RX_acc ⟨?_, ?_⟩ (ms_nI_0 (by omega))⟩
        · rw [cx_b_ub]
          refine RB_addE h.1 h3.1 hk hj h3.2 md_a_at ⟨?_, ?_, ?_, ?_, ?_, ?_, ?_⟩ (fun m m0 hm => ?_)
          all_goals unfold md_addE md_lay
          all_goals simp only [md_a_ua, md_a_ui, true_and]
          · rw [if_neg (by omega), if_neg (by omega), if_neg (by omega), if_neg (by omega), if_neg (by omega), if_neg (by omega), if_neg (by omega), if_pos trivial]
          · rw [if_neg (by omega), if_neg (by omega), if_neg (by omega), if_neg (by omega), if_neg (by omega), if_neg (by omega), if_pos trivial]
          · rw [if_neg (by omega), if_neg (by omega), if_neg (by omega), if_neg (by omega), if_neg (by omega), if_pos trivial]
          · rw [if_neg (by omega), if_neg (by omega), if_neg (by omega), if_neg (by omega), if_pos (by first | omega | trivial)]
          · rw [if_neg (by omega), if_neg (by omega), if_neg (by omega), if_pos (by first | omega | trivial)]
          · rw [if_neg (by omega), if_neg (by omega), if_pos (by first | omega | trivial)]
          · rw [if_neg (by omega), if_pos (by first | omega | trivial)]
          · rw [if_neg (by omega), if_neg (by omega), if_neg (by omega), if_neg (by omega), if_neg (by omega), if_neg (by omega), if_neg (by omega), if_neg (by omega)]
        · exact RR_ub (RR_forget (RR_ua3 (RR_lay (RR_ua3 (RR_ua3 (RR_ui0 h.2))))))
      · rw [if_neg h3, if_neg h3]
        exact ⟨rfl, RX_ref (RX_ui0 h) (by decide)⟩
    · rw [if_neg h2, if_neg h2]
      exact ⟨rfl, RX_ref (RX_ui0 h) (by decide)⟩
  · rw [if_neg h1, if_neg h1]
    exact ⟨rfl, RX_ref (RX_ui0 h) (by decide)⟩
theorem md_in_ix {w : Int32} {k : Nat} (hk : k < 2 ^ 31 - 1) : md_in w 0 (nI k) = ms_ix (k + 1) w := by
  have h1 := nI_toInt (n := k) (by omega)
  have h0 : (0 : Int32).toInt = 0 := by decide
  unfold md_in ms_ix
  rw [decide_eq_decide.mpr (show (0 ≤ w) ↔ (0 ≤ w.toInt) by rw [Int32.le_iff_toInt_le, h0]), decide_eq_decide.mpr (show (w ≤ nI k) ↔ (w.toInt < ((k + 1 : Nat) : Int)) by rw [Int32.le_iff_toInt_le, h1]; omega)]
/-- of: alike -/
theorem S_of {v w : Int32} (h : RX X M) : bk_of (bk_ec (cx_b X 6)) 8 (bk_en (cx_b X 6)) v w = mo_of M (bk_ec (cx_b X 6)) v w := by
  unfold bk_of mo_of
  rw [show md_in w 0 7 = ms_ix 8 w from md_in_ix (k := 7) (by decide)]
  by_cases h1 : (ms_ix (bk_ec (cx_b X 6)) v && ms_ix 8 w) = true
  · rw [if_pos h1, h1]
    rw [ms_and_b] at h1
    obtain ⟨k, hk, e1, e2, _⟩ := ms_ix_k h1.1
    obtain ⟨j, hj, f1, f2, _⟩ := ms_ix_k h1.2
    rw [e2, f2, f1]
    obtain ⟨⟨a1, a2, a3⟩, _, _⟩ := h.1.2.2.2.2.2.1 k hk
    show bk_en (cx_b X 6) (k * 8 + j) = _
    match j, hj with
    | 0, _ => rw [if_neg (by decide), if_pos (by decide)]; exact a1
    | 1, _ => rw [if_pos (by decide), md_cnt_rc]; exact a2
    | 2, _ => rw [if_neg (by decide), if_neg (by decide)]; exact a3 0 (by decide)
    | 3, _ => rw [if_neg (by decide), if_neg (by decide)]; exact a3 1 (by decide)
    | 4, _ => rw [if_neg (by decide), if_neg (by decide)]; exact a3 2 (by decide)
    | 5, _ => rw [if_neg (by decide), if_neg (by decide)]; exact a3 3 (by decide)
    | 6, _ => rw [if_neg (by decide), if_neg (by decide)]; exact a3 4 (by decide)
    | 7, _ => rw [if_neg (by decide), if_neg (by decide)]; exact a3 5 (by decide)
  · rw [if_neg h1]
    rw [Bool.not_eq_true] at h1
    rw [h1]
    rfl
theorem rc_lt {p : Int32} {e : Nat} (n : Nat) (he : e < n) (h : r (106 + 7 * e) = p) : rc r p e < rc r p n := by
  induction n with
  | zero => omega
  | succ n ih =>
    rw [rc]
    by_cases h1 : e = n
    · subst h1
      rw [if_pos h]
      omega
    · have := ih (by omega)
      omega
theorem rn_none {p i : Int32} (n : Nat) (h : ∀ e, e < n → r (106 + 7 * e) = p → nI (rc r p e) ≠ i) : rn r p i n = -1 := by
  induction n with
  | zero => rfl
  | succ n ih => rw [rn, if_neg (fun z => h n (by omega) z.1 z.2), ih (fun e he => h e (by omega))]
/-- list: alike -/
theorem S_list {v w : Int32} (h : RX X M) : co_list X v w = mo_list M (bk_pc (cx_b X 6)) (bk_ec (cx_b X 6)) v w := by
  have hpc : bk_pc (cx_b X 6) ≤ 16 := h.1.1.2.1
  have hec : bk_ec (cx_b X 6) ≤ 120 := h.1.1.2.2.1
  unfold co_list mo_list
  by_cases h0 : ms_ix (bk_pc (cx_b X 6)) v = true
  · rw [if_pos h0]
    obtain ⟨k, hk, e1, e2, _⟩ := ms_ix_k h0
    obtain ⟨h12, e⟩ := h.1.2.2.2.2.1 k hk
    have hof : bk_of (bk_pc (cx_b X 6)) 4 (bk_pa (cx_b X 6)) v 3 = nI (rc (md_a M 3) (nI k) (bk_ec (cx_b X 6))) := by
      unfold bk_of
      rw [h0, e2]
      exact e
    unfold bk_eAt
    rw [hof, md_cnt_rc, md_nth_rn, e2, e1]
    by_cases h1 : w = -1
    · rw [if_pos h1, if_pos h1]
    · rw [if_neg h1, if_neg h1]
      by_cases h2 : ms_ix (rc (md_a M 3) (nI k) (bk_ec (cx_b X 6))) w = true
      · obtain ⟨j, hj, f1, f2, _⟩ := ms_ix_k h2
        rw [f2, f1, ms_ix_nI (by omega), decide_eq_true (show j < 12 by omega), decide_eq_false (fun z => by have := (ms_nle (by omega) (by omega)).mp z; omega)]
        exact h.1.2.2.2.2.2.2 k j hk hj
      · have hb : (ms_ix 12 w && !decide (nI (rc (md_a M 3) (nI k) (bk_ec (cx_b X 6))) ≤ w)) = false := by
          rw [Bool.eq_false_iff]
          intro z
          rw [ms_and_b, Bool.not_eq_true', decide_eq_false_iff_not] at z
          obtain ⟨j, hj, f1, f2, _⟩ := ms_ix_k z.1
          refine h2 ?_
          rw [f1, ms_ix_nI (by omega)]
          rw [f1, ms_nle (by omega) (by omega)] at z
          exact decide_eq_true (by omega)
        rw [hb]
        refine (rn_none _ (fun e he z1 z2 => h2 ?_)).symm
        have hl := rc_lt (r := md_a M 3) _ he z1
        rw [← z2, ms_ix_nI (by omega)]
        exact decide_eq_true hl
  · rw [if_neg h0]
    rw [Bool.not_eq_true] at h0
    have hof : bk_of (bk_pc (cx_b X 6)) 4 (bk_pa (cx_b X 6)) v 3 = -1 := bk_ofF1 h0
    unfold bk_eAt
    rw [hof]
    by_cases h1 : w = -1
    · rw [if_pos h1]
    · rw [if_neg h1]
      have hb : (ms_ix 12 w && !decide ((-1 : Int32) ≤ w)) = false := by
        rw [Bool.eq_false_iff]
        intro z
        rw [ms_and_b, Bool.not_eq_true', decide_eq_false_iff_not] at z
        exact z.2 (ms_neg1_le (ms_ix_0 z.1))
      rw [hb]
      rfl
/-- end: alike -/
theorem S_end {v : Int32} (h : RX X M) : (co_end X v).1 = (mo_end M v).1 ∧ RX (co_end X v).2 (mo_end M v).2 := by
  obtain ⟨hb, a, b, ⟨c1, T, hT, c2⟩, e, f⟩ := h
  unfold co_end mo_end
  by_cases h1 : v < 0
  · rw [if_pos h1, if_pos h1]
    exact ⟨rfl, RX_ui0 ⟨hb, a, b, ⟨c1, T, hT, c2⟩, e, f⟩⟩
  · rw [if_neg h1, if_neg h1, ← c1]
    by_cases h2 : v ≤ cx_i X 1 1
    · rw [if_pos h2, if_pos h2]
      refine ⟨rfl, hb, ?_⟩
      rw [c2] at h2
      have h3 : ms_ix (T + 1) v = true := by
        rw [← md_in_ix (by omega)]
        unfold md_in
        rw [decide_eq_true h2, decide_eq_true (Int32.not_lt.mp h1)]
        rfl
      obtain ⟨j, hj, f1, _⟩ := ms_ix_k h3
      refine ⟨?_, b, ⟨?_, ?_⟩, e, ?_⟩
      · show cx_i (cx_ui X 1 1 v) 0 11 = md_i (md_ui (md_ui M 0 0) 8 v) 1
        rw [cx_i_ui (by decide), md_i_ne (by decide), md_i_ne (by decide)]
        exact a
      · show cx_i (cx_ui X 1 1 v) 1 1 = md_i (md_ui (md_ui M 0 0) 8 v) 8
        rw [cx_i_at, md_i_at]
      · show ∃ T, T ≤ 400 ∧ cx_i (cx_ui X 1 1 v) 1 1 = nI T
        rw [cx_i_at]
        exact ⟨j, by omega, f1⟩
      · show cx_i (cx_ui X 1 1 v) 0 12 = md_i (md_ui (md_ui M 0 0) 8 v) 13
        rw [cx_i_ui (by decide), md_i_ne (by decide), md_i_ne (by decide)]
        exact f
    · rw [if_neg h2, if_neg h2]
      exact ⟨rfl, RX_ui0 ⟨hb, a, b, ⟨c1, T, hT, c2⟩, e, f⟩⟩
end Simb
