/-! CALL BY CALL: feed, end, row, image, back; written by wip/whole/mdl.py from y_gt.txt -/
/-- what feeding leaves of the class -/
def cx_k (X Y : cx_T) : Prop := (∀ c, cx_b Y c = cx_b X c) ∧ ∀ c, c ≠ 2 → c ≠ 64 → ∀ n, cx_a Y c n = cx_a X c n
section Gt
variable {X Y : cx_T} {M N : md_T} {T t : ms_S} {B : bk_T} {r : Nat → Int32} {Ts : List (List cl_T)} {i j k n p e : Nat} {A : ab_T}
theorem GQ_k (h : GQ X M T) (hc : cx_k X Y) (hk : md_k M N) : GQ Y N T := GQ_s h (hc.1 6) (hc.1 51) (hc.1 57) (fun n => hc.2 63 (by decide) (by decide) n) (fun c h1 h2 n => hc.2 c (by omega) (by omega) n) hk.1 hk.2.1 hk.2.2
theorem ck_0 : cx_k X X := ⟨fun _ => rfl, fun _ _ _ _ => rfl⟩
theorem ck_i {c q : Nat} {v : Int32} (h : cx_k X Y) : cx_k X (cx_ui Y c q v) := h
theorem ck_by {v : Int32} (h : cx_k X Y) : cx_k X (co_by Y v) := ⟨h.1, fun c h1 h2 n => by
  unfold co_by
  show cx_a (cx_ua Y 2 (cx_i Y 1 1).toNatClampNeg v) c n = _
  rw [cx_a_ua, if_neg (fun z => h1 z.1)]
  exact h.2 c h1 h2 n⟩
theorem ck_four {v : Int32} (h : cx_k X Y) : cx_k X (co_four Y v) := by
  unfold co_four
  exact ck_by (ck_by (ck_by (ck_by h)))
theorem mk_by {v : Int32} (h : md_k M N) : md_k M (md_by N v) := by
  unfold md_by
  refine ⟨fun m hm => ?_, fun m => ?_, fun m => ?_⟩
  · show md_a (md_ua N 7 (md_i N 8).toNatClampNeg v) 3 m = _
    rw [md_a_fun (by decide)]
    exact h.1 m hm
  · show md_a (md_ua N 7 (md_i N 8).toNatClampNeg v) 5 m = _
    rw [md_a_fun (by decide)]
    exact h.2.1 m
  · show md_a (md_ua N 7 (md_i N 8).toNatClampNeg v) 6 m = _
    rw [md_a_fun (by decide)]
    exact h.2.2 m
theorem mk_four {v : Int32} (h : md_k M N) : md_k M (md_four N v) := by
  unfold md_four
  exact mk_by (mk_by (mk_by (mk_by h)))
theorem mk_ui {q : Nat} {v : Int32} (h : md_k M N) : md_k M (md_ui N q v) := h
theorem Gs_feed {a b c e f : Int32} (h : GR X M T) (h0 : cx_i X 1 1 = nI n) : (co_feed X n a b c e f).1 = (mo_feed M n a b c e f).1 ∧ GR (co_feed X n a b c e f).2 (mo_feed M n a b c e f).2 T := by
  obtain ⟨s1, s2⟩ := S_feed (a := a) (b := b) (c := c) (e := e) (f := f) h.1 h0
  refine ⟨s1, s2, GQ_k h.2 ?_ ?_⟩
  · unfold co_feed co_five
    split
    · exact ck_four (ck_four (ck_four (ck_four (ck_four ck_0))))
    · exact ck_0
  · unfold mo_feed md_five
    split
    · exact mk_four (mk_four (mk_four (mk_four (mk_four md_k0))))
    · exact md_k0
theorem Gs_end {v : Int32} (h : GR X M T) : (co_end X v).1 = (mo_end M v).1 ∧ GR (co_end X v).2 (mo_end M v).2 T := by
  obtain ⟨s1, s2⟩ := S_end (v := v) h.1
  refine ⟨s1, s2, GQ_k h.2 ?_ ?_⟩
  · unfold co_end
    split
    · exact ck_0
    · split
      · exact ck_i ck_0
      · exact ck_0
  · unfold mo_end
    split
    · exact md_k0
    · split
      · exact mk_ui md_k0
      · exact md_k0
/-- the rows of the tape: what they leave -/
theorem co_rN_k (hv : VR (cx_b X 6)) (h8 : bk_tc (cx_b X 6) ≤ 8) : ∀ k, VR (cx_b (co_rN p X k).1 6) ∧ bk_tc (cx_b (co_rN p X k).1 6) ≤ 8 ∧ bk_xc (cx_b (co_rN p X k).1 6) = bk_xc (cx_b X 6) ∧ bk_tx (cx_b (co_rN p X k).1 6) = bk_tx (cx_b X 6) ∧ (∀ c, c ≠ 6 → cx_b (co_rN p X k).1 c = cx_b X c) ∧ ∀ c n, cx_a (co_rN p X k).1 c n = cx_a X c n
  | 0 => ⟨hv, h8, rfl, rfl, fun _ _ => rfl, fun _ _ => rfl⟩
  | k + 1 => by
    have ih := co_rN_k hv h8 k
    show VR (cx_b (co_rS (co_rN p X k).1 p k) 6) ∧ bk_tc (cx_b (co_rS (co_rN p X k).1 p k) 6) ≤ 8 ∧ bk_xc (cx_b (co_rS (co_rN p X k).1 p k) 6) = bk_xc (cx_b X 6) ∧ bk_tx (cx_b (co_rS (co_rN p X k).1 p k) 6) = bk_tx (cx_b X 6) ∧ (∀ c, c ≠ 6 → cx_b (co_rS (co_rN p X k).1 p k) c = cx_b X c) ∧ ∀ c n, cx_a (co_rS (co_rN p X k).1 p k) c n = cx_a X c n
    generalize (co_rN p X k).1 = Z at ih
    obtain ⟨i1, i2, i3, i4, i5, i6⟩ := ih
    unfold co_rS
    split
    · rename_i hr
      unfold co_rok sl_fs at hr
      rw [ms_and_b, ms_and_b, ms_and_b, ms_and_b, ms_and_b, ms_and_b] at hr
      obtain ⟨ht, ⟨h1, h2, h3, h4⟩, h5, _⟩ := hr
      obtain ⟨ja, la, ea, _⟩ := sl_in_k (k := 9999) (by decide) h1
      obtain ⟨jb, lb, eb, _⟩ := sl_in_k (k := 9999) (by decide) h2
      obtain ⟨jc, lc, ec, _⟩ := sl_in_k (k := 9999) (by decide) h3
      obtain ⟨je, le, ee, _⟩ := sl_in_k (k := 9999) (by decide) h4
      obtain ⟨jw, lw, ew, _⟩ := sl_in_k (k := 9) (by decide) h5
      obtain ⟨jt, lt, et, _⟩ := ms_ix_k ht
      rw [ea, eb, ec, ee, ew, et, cx_b_ub]
      exact ⟨VR_E i1 (by omega) (by omega) (by omega) (by omega) (by omega) (by omega), by rw [bk_addE_tc]; exact i2, by rw [bk_addE_xc]; exact i3, by rw [bk_addE_o.2]; exact i4, fun c hc => (cx_b_ne hc).trans (i5 c hc), i6⟩
    · exact ⟨i1, i2, i3, i4, i5, i6⟩
theorem mo_rN_k {nt ne : Nat} {p : Int32} : ∀ k, md_k M N → md_k M (mo_rowN nt p N ne k).1
  | 0, h => h
  | k + 1, h => by
    have ih := mo_rN_k (nt := nt) (ne := ne) (p := p) k h
    unfold mo_rowN
    split
    · rename_i hr
      unfold md_rok at hr
      rw [ms_and_b, ms_and_b, ms_and_b, decide_eq_true_eq] at hr
      exact md_kE ih hr.2.2.1
    · exact ih
theorem Gs_row {p : Int32} (h : GR X M T) (hn : n ≤ 400) : (co_row X n p).1 = (mo_row M (bk_tc (cx_b X 6)) (bk_pc (cx_b X 6)) (bk_ec (cx_b X 6)) n p).1 ∧ GR (co_row X n p).2 (mo_row M (bk_tc (cx_b X 6)) (bk_pc (cx_b X 6)) (bk_ec (cx_b X 6)) n p).2 T := by
  obtain ⟨s1, s2⟩ := S_row (p := p) h.1 hn
  refine ⟨s1, s2, ?_⟩
  have w0 : bk_w (cx_b X 6) := h.1.1.1
  have hpc := s2.1.1.2.1
  have hk : md_k M (mo_row M (bk_tc (cx_b X 6)) (bk_pc (cx_b X 6)) (bk_ec (cx_b X 6)) n p).2 := by
    unfold mo_row
    split
    · split
      · exact md_kt (mk_ui md_k0)
      · exact md_kt (mo_rN_k _ (mk_ui md_k0))
    · exact md_kt (mk_ui md_k0)
  generalize (mo_row M (bk_tc (cx_b X 6)) (bk_pc (cx_b X 6)) (bk_ec (cx_b X 6)) n p).2 = N at hk
  have tail : ∀ Z : cx_T, GQ Z N T → ∀ v : Int32, GQ (if 0 ≤ v then co_acc (cx_ui Z 1 1 0) else co_ref (cx_ui Z 1 1 0) v) N T := by
    intro Z hZ v
    split
    · exact hZ
    · exact GQ_ref (X := cx_ui Z 1 1 0) hZ ⟨fun _ _ => rfl, fun _ => rfl, fun _ => rfl⟩
  have hpcb : ∀ Z : cx_T, ∀ v : Int32, cx_b (if 0 ≤ v then co_acc (cx_ui Z 1 1 0) else co_ref (cx_ui Z 1 1 0) v) 6 = cx_b Z 6 := by
    intro Z v
    split <;> rfl
  unfold co_row at hpc ⊢
  refine tail _ ?_ _
  rw [hpcb] at hpc
  unfold co_readRow at hpc ⊢
  split at hpc
  · rename_i hi
    rw [if_pos hi]
    split at hpc
    · rename_i h0
      rw [if_pos h0]
      exact GQ_k h.2 ck_0 hk
    · rename_i h0
      rw [if_neg h0]
      obtain ⟨i1, i2, i3, i4, i5, i6⟩ := co_rN_k (p := p.toNatClampNeg) h.2.1 w0.1 (n / 10)
      rw [show cx_b ((nI (co_rN p.toNatClampNeg X (n / 10)).2, co_forget (co_rN p.toNatClampNeg X (n / 10)).1) : Int32 × cx_T).2 6 = cx_b (co_rN p.toNatClampNeg X (n / 10)).1 6 from rfl] at hpc
      generalize (co_rN p.toNatClampNeg X (n / 10)).1 = Z at hpc i1 i2 i3 i4 i5 i6 ⊢
      refine GQ_b h.2 i1 i3 i4 ?_ (i5 51 (by decide)) (i5 57 (by decide)) (fun n => fo_63.trans (i6 63 n)) hk.1 hk.2.1 hk.2.2
      obtain ⟨Ts, t1, t2, _⟩ := h.2.2.1
      exact ⟨Ts, t1, t2, LC_fo hpc (fun c h1 h2 n hn => fo_16 h1 h2 hn)⟩
  · rename_i hi
    rw [if_neg hi]
    exact GQ_k h.2 ck_0 hk
end Gt
