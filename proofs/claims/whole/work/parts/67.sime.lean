/-! row: alike in class and model, the whole call; written by wip/whole/mdl.py from sime.txt -/
section Sime
variable {X : cx_T} {M : md_T}
theorem RX_len0 (h : RX X M) : RX (cx_ui X 1 1 0) (md_ui (md_ui M 0 0) 8 0) := by
  obtain ⟨hb, a, b, ⟨c1, T, hT, c2⟩, e, f⟩ := h
  refine ⟨hb, ?_, b, ⟨?_, ?_⟩, e, ?_⟩
  · rw [cx_i_ui (by decide), md_i_ne (by decide), md_i_ne (by decide)]
    exact a
  · rw [cx_i_at, md_i_at]
  · rw [cx_i_at]
    exact ⟨0, by decide, rfl⟩
  · rw [cx_i_ui (by decide), md_i_ne (by decide), md_i_ne (by decide)]
    exact f
theorem co_rS_ui {p k : Nat} : co_rS (cx_ui X 1 1 0) p k = cx_ui (co_rS X p k) 1 1 0 := by
  have e : co_rok (cx_ui X 1 1 0) p k = co_rok X p k := rfl
  unfold co_rS
  rw [e]
  by_cases h : co_rok X p k = true
  · rw [if_pos h, if_pos h]
    rfl
  · rw [if_neg h, if_neg h]
theorem co_rN_ui {p : Nat} (k : Nat) : co_rN p (cx_ui X 1 1 0) k = (cx_ui (co_rN p X k).1 1 1 0, (co_rN p X k).2) := by
  induction k with
  | zero => rfl
  | succ k ih =>
    rw [co_rN, co_rN, ih, co_rS_ui]
    rfl
/-- row: alike -/
theorem S_row {p : Int32} {n : Nat} (h : RX X M) (hn : n ≤ 400) : (co_row X n p).1 = (mo_row M (bk_tc (cx_b X 6)) (bk_pc (cx_b X 6)) (bk_ec (cx_b X 6)) n p).1 ∧ RX (co_row X n p).2 (mo_row M (bk_tc (cx_b X 6)) (bk_pc (cx_b X 6)) (bk_ec (cx_b X 6)) n p).2 := by
  have h0 := RX_len0 h
  unfold co_row co_readRow mo_row
  by_cases h1 : ms_ix (bk_pc (cx_b X 6)) p = true
  · rw [if_pos h1, if_pos h1]
    by_cases h2 : n = 0
    · rw [if_pos h2, if_pos h2]
      refine ⟨rfl, ?_⟩
      show RX (if (0 : Int32) ≤ -6 then co_acc (cx_ui X 1 1 0) else co_ref (cx_ui X 1 1 0) (-6)) (md_tell (md_ui (md_ui M 0 0) 8 0) (-6))
      rw [if_neg (by decide)]
      exact RX_ref h0 (by decide)
    · rw [if_neg h2, if_neg h2]
      obtain ⟨k, hk, e1, e2, _⟩ := ms_ix_k h1
      rw [e2, e1]
      have hbk : cx_b (cx_ui X 1 1 0) 6 = cx_b X 6 := rfl
      have H := rN_alike (X := cx_ui X 1 1 0) (p := k) (fun q => h0.2.2.2.2.1 q) h0.1 h0.2 hk (n / 10)
      rw [hbk, co_rN_ui] at H
      obtain ⟨⟨i1, _, _, _⟩, _, i6, i7⟩ := H
      have hle := (co_rN_i (X := X) (p := k) h.1.1 h.1.sz hk (n / 10)).2.2.2.2.2
      have i6' : (co_rN k X (n / 10)).2 = (mo_rowN (bk_tc (cx_b X 6)) (nI k) (md_ui (md_ui M 0 0) 8 0) (bk_ec (cx_b X 6)) (n / 10)).2.2 := i6
      have h00 : (0 : Int32) ≤ nI (co_rN k X (n / 10)).2 := ms_nI_0 (by omega)
      refine ⟨congrArg nI i6', ?_⟩
      show RX (if (0 : Int32) ≤ nI (co_rN k X (n / 10)).2 then co_acc (cx_ui (co_forget (co_rN k X (n / 10)).1) 1 1 0) else co_ref (cx_ui (co_forget (co_rN k X (n / 10)).1) 1 1 0) (nI (co_rN k X (n / 10)).2)) (md_tell (mo_rowN (bk_tc (cx_b X 6)) (nI k) (md_ui (md_ui M 0 0) 8 0) (bk_ec (cx_b X 6)) (n / 10)).1 (nI (mo_rowN (bk_tc (cx_b X 6)) (nI k) (md_ui (md_ui M 0 0) 8 0) (bk_ec (cx_b X 6)) (n / 10)).2.2))
      rw [if_pos h00, ← i6']
      exact RX_acc (X := cx_ui (co_forget (co_rN k X (n / 10)).1) 1 1 0) ⟨i1, i7⟩ h00
  · rw [if_neg h1, if_neg h1]
    refine ⟨rfl, ?_⟩
    show RX (if (0 : Int32) ≤ -2 then co_acc (cx_ui X 1 1 0) else co_ref (cx_ui X 1 1 0) (-2)) (md_tell (md_ui (md_ui M 0 0) 8 0) (-2))
    rw [if_neg (by decide)]
    exact RX_ref h0 (by decide)
end Sime
