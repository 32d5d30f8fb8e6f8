/-! row: alike in class and model; written by wip/whole/mdl.py from simd.txt -/
theorem ms_shl8 : ∀ x, x < 256 → nI x <<< ((8 : Int32) &&& 31) = nI (2 ^ 8 * x) := by decide +kernel
theorem ms_orN {x y : Nat} (hy : y < 256) : nI (2 ^ 8 * x) ||| nI y = nI (2 ^ 8 * x + y) := by
  rw [Nat.two_pow_add_eq_or_of_lt (i := 8) (by omega)]
  apply Int32.toBitVec_inj.mp
  rw [Int32.toBitVec_or]
  exact (BitVec.ofNat_or).symm
theorem ms_byteN {a : Int32} (h0 : 0 ≤ a) (h1 : a ≤ 255) : ∃ x, x < 256 ∧ a = nI x := by
  obtain ⟨j, hj, e, _⟩ := ms_in_k (k := 255) (w := a) (by decide) (by unfold md_in; rw [decide_eq_true h0, decide_eq_true (show a ≤ nI 255 from h1)]; rfl)
  exact ⟨j, by omega, e⟩
theorem ms_pair {a b : Int32} (a0 : 0 ≤ a) (a1 : a ≤ 255) (b0 : 0 ≤ b) (b1 : b ≤ 255) : (a <<< ((8 : Int32) &&& 31)) ||| b = a * 256 + b := by
  obtain ⟨x, hx, e⟩ := ms_byteN a0 a1
  obtain ⟨y, hy, f⟩ := ms_byteN b0 b1
  rw [e, f, ms_shl8 x hx, ms_orN hy, show nI x * 256 = nI (x * 256) from nI_mul x 256, ms_p1]
  congr 1
  omega
section Simd
variable {X : cx_T} {M : md_T}
/-- the tapes hold the same bytes -/
def RTp (X : cx_T) (M : md_T) : Prop := ∀ k, cx_a X 2 k = md_a M 7 k ∧ 0 ≤ cx_a X 2 k ∧ cx_a X 2 k ≤ 255
theorem pr_alike (h : RTp X M) (j : Nat) : co_pr X j = md_pr M j := by
  unfold co_pr md_pr
  rw [← (h j).1, ← (h (j + 1)).1]
  exact (ms_pair (h j).2.1 (h j).2.2 (h (j + 1)).2.1 (h (j + 1)).2.2).symm
theorem rok_alike {p k : Nat} (h : RTp X M) (hb : RB (cx_b X 6) (md_a M 3)) (hp : p < bk_pc (cx_b X 6)) : co_rok X p k = md_rok M (bk_tc (cx_b X 6)) (bk_ec (cx_b X 6)) (nI p) k := by
  unfold co_rok md_rok
  rw [room_rc hb hp, md_fields_sl, md_cnt_rc, pr_alike h, pr_alike h, pr_alike h, pr_alike h, (h (10 * k)).1, (h (10 * k + 9)).1]
  simp only [Bool.and_assoc]
theorem rN_alike {p : Nat} (h : RTp X M) (hb : RB (cx_b X 6) (md_a M 3)) (hr : RR X M) (hp : p < bk_pc (cx_b X 6)) (k : Nat) : (RB (cx_b (co_rN p X k).1 6) (md_a (mo_rowN (bk_tc (cx_b X 6)) (nI p) M (bk_ec (cx_b X 6)) k).1 3) ∧ RTp (co_rN p X k).1 M ∧ bk_tc (cx_b (co_rN p X k).1 6) = bk_tc (cx_b X 6) ∧ bk_pc (cx_b (co_rN p X k).1 6) = bk_pc (cx_b X 6)) ∧ bk_ec (cx_b (co_rN p X k).1 6) = (mo_rowN (bk_tc (cx_b X 6)) (nI p) M (bk_ec (cx_b X 6)) k).2.1 ∧ (co_rN p X k).2 = (mo_rowN (bk_tc (cx_b X 6)) (nI p) M (bk_ec (cx_b X 6)) k).2.2 ∧ RR (co_rN p X k).1 (mo_rowN (bk_tc (cx_b X 6)) (nI p) M (bk_ec (cx_b X 6)) k).1 := by
  induction k with
  | zero => exact ⟨⟨hb, h, rfl, rfl⟩, rfl, rfl, hr⟩
  | succ k ih =>
    obtain ⟨⟨i1, i2, i3, i4⟩, i5, i6, i7⟩ := ih
    have j1 := (mo_rowN_i (nt := bk_tc (cx_b X 6)) (p := nI p) hb.2.1.2.2.1 hb.1.2.2.1 k).1
    have i2' : RTp (co_rN p X k).1 (mo_rowN (bk_tc (cx_b X 6)) (nI p) M (bk_ec (cx_b X 6)) k).1 := fun q => by rw [j1 q]; exact i2 q
    have ho := rok_alike (k := k) i2' i1 (by rw [i4]; exact hp)
    rw [i3, i5] at ho
    rw [co_rN, mo_rowN]
    unfold co_rS
    rw [ho]
    by_cases h1 : md_rok (mo_rowN (bk_tc (cx_b X 6)) (nI p) M (bk_ec (cx_b X 6)) k).1 (bk_tc (cx_b X 6)) (mo_rowN (bk_tc (cx_b X 6)) (nI p) M (bk_ec (cx_b X 6)) k).2.1 (nI p) k = true
    · rw [if_pos h1, if_pos h1, if_pos h1, cx_b_ub]
      unfold md_rok at h1
      rw [ms_and_b, ms_and_b, ms_and_b, decide_eq_true_eq, decide_eq_true_eq, j1] at h1
      obtain ⟨t, ht, t1, _⟩ := ms_ix_k h1.1
      have hrc := h1.2.2.2
      rw [md_cnt_rc, ← i5] at hrc
      rw [← i5] at h1
      have hpr : ∀ j, co_pr (co_rN p X k).1 j = md_pr M j := fun j => pr_alike i2 j
      rw [hpr, hpr, hpr, hpr, (i2 _).1, (i2 _).1, t1, ← i5, ← i6]
      refine ⟨⟨?_, fun q => i2 q, by rw [bk_addE_tc]; exact i3, by rw [bk_addE_pc]; exact i4⟩, by rw [bk_addE_ec], rfl, RR_ub (RR_ua3 (RR_lay (RR_ua3 (RR_ua3 i7))))⟩
      refine RB_addE i1 h1.2.2.1 (by rw [i4]; exact hp) (by rw [i3]; exact ht) hrc md_a_at ⟨?_, ?_, ?_, ?_, ?_, ?_, ?_⟩ (fun m m0 hm => ?_)
      all_goals unfold md_addE md_lay
      all_goals simp only [md_a_ua, true_and]
      · rw [if_neg (by omega), if_neg (by omega), if_neg (by omega), if_neg (by omega), if_neg (by omega), if_neg (by omega), if_neg (by omega), if_pos trivial]
      · rw [if_neg (by omega), if_neg (by omega), if_neg (by omega), if_neg (by omega), if_neg (by omega), if_neg (by omega), if_pos trivial]
      · rw [if_neg (by omega), if_neg (by omega), if_neg (by omega), if_neg (by omega), if_neg (by omega), if_pos trivial]
      · rw [if_neg (by omega), if_neg (by omega), if_neg (by omega), if_neg (by omega), if_pos (by first | omega | trivial)]
      · rw [if_neg (by omega), if_neg (by omega), if_neg (by omega), if_pos (by first | omega | trivial)]
      · rw [if_neg (by omega), if_neg (by omega), if_pos (by first | omega | trivial)]
      · rw [if_neg (by omega), if_pos (by first | omega | trivial)]
      · rw [if_neg (by omega), if_neg (by omega), if_neg (by omega), if_neg (by omega), if_neg (by omega), if_neg (by omega), if_neg (by omega), if_neg (by omega)]
    · rw [if_neg h1, if_neg h1, if_neg h1]
      exact ⟨⟨i1, i2, i3, i4⟩, i5, i6, i7⟩
end Simd
