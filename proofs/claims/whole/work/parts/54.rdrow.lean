/-! CONTRACTS: the class's row: written by wip/whole/mdl.py from rdrow.txt -/
section Rdrow
variable {d : Nat} {X : cx_T} {h t : ms_S} {n : Nat}
theorem cb_addEntry_no {B : bk_T} {p : Nat} {th a b c e w : Int32} (w0 : bk_w B) (hp : p < bk_pc B) (hr : bk_room B (nI p) = false) : ms_Cl (d + 4) 18 [.ref h.length, .int (nI p), .int th, .int a, .int b, .int c, .int e, .int w] (ms_b h B t) (some (.int (-1))) (ms_b h B t) := by
  have hpc := w0.2.1
  refine m_X0_addEntry ms_b_l ms_b_t ⟨_, ms_b_0⟩ (b_X0_addEntry_0 (Q := ms_lf _ _) ?_)
  refine ms_c1_i (c_hasPaper (ms_b_bk w0)) (ms_ifT (fun h1 => ?_) (fun _ => ?_))
  · exact ⟨rfl, rfl⟩
  refine ms_c1_i (c_hasRoomIn (ms_b_bk w0)) (ms_ifT (fun h1 => ?_) (fun h1 => ?_))
  · exact ⟨rfl, rfl⟩
  · rw [hr] at h1
    cases h1
/-- the tape's numbers are bytes -/
def co_tp (X : cx_T) : Prop := ∀ k, k < 400 → cx_a X 2 k ≠ -1
def co_rok (X : cx_T) (p k : Nat) : Bool := ms_ix (bk_tc (cx_b X 6)) (cx_a X 2 (10 * k)) && (sl_fs (co_pr X (10 * k + 1)) (co_pr X (10 * k + 3)) (co_pr X (10 * k + 5)) (co_pr X (10 * k + 7)) && (sl_in (cx_a X 2 (10 * k + 9)) 9 && bk_room (cx_b X 6) (nI p)))
def co_rS (X : cx_T) (p k : Nat) : cx_T := if co_rok X p k then cx_ub X 6 (bk_addE (cx_b X 6) p (cx_a X 2 (10 * k)) (co_pr X (10 * k + 1)) (co_pr X (10 * k + 3)) (co_pr X (10 * k + 5)) (co_pr X (10 * k + 7)) (cx_a X 2 (10 * k + 9))) else X
theorem cx_ub_same {c : Nat} : cx_ub X c (cx_b X c) = X := by
  unfold cx_ub cx_b
  have : (fun j => if j = c then X.2.2.2.2.2 c else X.2.2.2.2.2 j) = X.2.2.2.2.2 := by
    funext j
    by_cases h : j = c
    · rw [if_pos h, h]
    · rw [if_neg h]
  rw [this]
theorem c8_addFromTape {p k : Nat} (w0 : bk_w (cx_b X 6)) (s : bk_sz (cx_b X 6)) (hp : p < bk_pc (cx_b X 6)) (h1 : cx_i X 1 1 = nI n) (hn : n ≤ 400) (hk : 10 * k + 10 ≤ n) (tp : co_tp X) : ms_Cl (d + 5) 102 [.ref 0, .int (nI p), .int (nI (10 * k))] (ms_x X t) (some (.int (ms_bi (co_rok X p k)))) (ms_x (co_rS X p k) t) := by
  have hb : ∀ j, j ≤ 9 → cx_a X 2 (10 * k + j) ≠ -1 := fun j hj => tp _ (by omega)
  refine m_X8_addFromTape ms_x_l ms_x_t ⟨_, xo_0⟩ (b_X8_addFromTape_0 (Q := ms_lf _ _) ?_)
  simp only [xf_0_0, ms_oR_e]
  refine ms_c1_i (c6_byteAt h1 hn (by omega)) ?_
  rw [show nI (10 * k) + 1 = nI (10 * k + 1) from ms_p1 1]
  refine ms_c1_i (c6_pairAt h1 hn (by omega) (hb 1 (by decide)) (hb 2 (by decide))) ?_
  rw [show nI (10 * k) + 3 = nI (10 * k + 3) from ms_p1 3]
  refine ms_c1_i (c6_pairAt h1 hn (by omega) (hb 3 (by decide)) (hb 4 (by decide))) ?_
  rw [show nI (10 * k) + 5 = nI (10 * k + 5) from ms_p1 5]
  refine ms_c1_i (c6_pairAt h1 hn (by omega) (hb 5 (by decide)) (hb 6 (by decide))) ?_
  rw [show nI (10 * k) + 7 = nI (10 * k + 7) from ms_p1 7]
  refine ms_c1_i (c6_pairAt h1 hn (by omega) (hb 7 (by decide)) (hb 8 (by decide))) ?_
  rw [show nI (10 * k) + 9 = nI (10 * k + 9) from ms_p1 9]
  refine ms_c1_i (c6_byteAt h1 hn (by omega)) ?_
  unfold co_rS co_rok sl_fs
  simp only [xf_0_2, ms_oR_e]
  refine ms_c1_i (c_hasThing (xb_6 w0)) (ms_ifT (fun h4 => ?_) (fun h4 => ?_)) <;> rw [h4]
  · exact ⟨(by first | exact Or.inr rfl | exact Or.inl rfl | trivial), rfl, rfl⟩
  refine ms_c1_i c_areFields (ms_ifT (fun h5 => ?_) (fun h5 => ?_)) <;> rw [h5]
  · exact ⟨(by first | exact Or.inr rfl | exact Or.inl rfl | trivial), rfl, rfl⟩
  refine ms_c1_i c_within (ms_ifT (fun h6 => ?_) (fun h6 => ?_)) <;> rw [h6]
  · exact ⟨(by first | exact Or.inr rfl | exact Or.inl rfl | trivial), rfl, rfl⟩
  cases h7 : bk_room (cx_b X 6) (nI p)
  · refine ms_c1_i (xm_6 (B := cx_b X 6) fun h t => cb_addEntry_no w0 hp h7) ?_
    refine ms_yes rfl ⟨(by first | exact Or.inr rfl | exact Or.inl rfl | trivial), rfl, ?_⟩
    rw [cx_ub_same]
    rfl
  · obtain ⟨q, hq, eq, hec⟩ := bk_room_q w0 s hp h7
    refine ms_c1_i (xm_6 fun h t => cb_addEntry w0 hp eq hq hec) ?_
    refine ms_no (fun z => ?_) ⟨(by first | exact Or.inr rfl | exact Or.inl rfl | trivial), rfl, rfl⟩
    have hz := ms_nI_0 (n := bk_ec (cx_b X 6)) (by omega)
    rw [z] at hz
    exact absurd hz (by decide)
/-- the rows of the tape laid so far: the state, how many were taken -/
def co_rN (p : Nat) (X : cx_T) : Nat → cx_T × Nat
  | 0 => (X, 0)
  | k + 1 => (co_rS (co_rN p X k).1 p k, if co_rok (co_rN p X k).1 p k then (co_rN p X k).2 + 1 else (co_rN p X k).2)
theorem cx_b_ub {c : Nat} {B : bk_T} : cx_b (cx_ub X c B) c = B := by
  unfold cx_b cx_ub
  simp only [if_true]
theorem bk_addE_tc {B : bk_T} {p : Nat} {th a b c e w : Int32} : bk_tc (bk_addE B p th a b c e w) = bk_tc B := by
  unfold bk_addE
  simp only [be_tc_tc, be_tc_pc, be_tc_ec, be_tc_xc, be_tc_th, be_tc_pa, be_tc_li, be_tc_en, be_tc_tx]
theorem bk_addE_pc {B : bk_T} {p : Nat} {th a b c e w : Int32} : bk_pc (bk_addE B p th a b c e w) = bk_pc B := by
  unfold bk_addE
  simp only [be_pc_tc, be_pc_pc, be_pc_ec, be_pc_xc, be_pc_th, be_pc_pa, be_pc_li, be_pc_en, be_pc_tx]
theorem bk_addE_ec {B : bk_T} {p : Nat} {th a b c e w : Int32} : bk_ec (bk_addE B p th a b c e w) = bk_ec B + 1 := by
  unfold bk_addE
  simp only [be_ec_tc, be_ec_pc, be_ec_ec, be_ec_xc, be_ec_th, be_ec_pa, be_ec_li, be_ec_en, be_ec_tx]
theorem bk_addE_xc {B : bk_T} {p : Nat} {th a b c e w : Int32} : bk_xc (bk_addE B p th a b c e w) = bk_xc B := by
  unfold bk_addE
  simp only [be_xc_tc, be_xc_pc, be_xc_ec, be_xc_xc, be_xc_th, be_xc_pa, be_xc_li, be_xc_en, be_xc_tx]
theorem bk_addE_pa {B : bk_T} {p : Nat} {th a b c e w : Int32} : bk_pa (bk_addE B p th a b c e w) = upd (bk_pa B) (p * 4 + 3) (bk_pa B (p * 4 + 3) + 1) := by
  unfold bk_addE
  simp only [be_pa_tc, be_pa_pc, be_pa_ec, be_pa_xc, be_pa_th, be_pa_pa, be_pa_li, be_pa_en, be_pa_tx]
theorem bk_sz_addE {B : bk_T} {p : Nat} {th a b c e w : Int32} (w0 : bk_w B) (s : bk_sz B) (hp : p < bk_pc B) (hr : bk_room B (nI p) = true) : bk_w (bk_addE B p th a b c e w) ∧ bk_sz (bk_addE B p th a b c e w) ∧ bk_pc (bk_addE B p th a b c e w) = bk_pc B := by
  obtain ⟨q, hq, eq, hec⟩ := bk_room_q w0 s hp hr
  unfold bk_w bk_sz
  rw [bk_addE_tc, bk_addE_pc, bk_addE_ec, bk_addE_xc, bk_addE_pa]
  refine ⟨⟨w0.1, w0.2.1, hec, w0.2.2.2⟩, fun r hrp => ?_, rfl⟩
  by_cases h1 : r = p
  · refine ⟨q + 1, by omega, ?_⟩
    rw [h1]
    unfold upd
    rw [if_pos rfl, eq]
    exact ms_p1 1
  · obtain ⟨q2, k1, k2⟩ := s r hrp
    refine ⟨q2, k1, ?_⟩
    unfold upd
    rw [if_neg (by omega), k2]
theorem co_rN_i {p : Nat} (w0 : bk_w (cx_b X 6)) (s : bk_sz (cx_b X 6)) (hp : p < bk_pc (cx_b X 6)) (k : Nat) : bk_w (cx_b (co_rN p X k).1 6) ∧ bk_sz (cx_b (co_rN p X k).1 6) ∧ bk_pc (cx_b (co_rN p X k).1 6) = bk_pc (cx_b X 6) ∧ (∀ j, cx_a (co_rN p X k).1 2 j = cx_a X 2 j) ∧ cx_i (co_rN p X k).1 1 1 = cx_i X 1 1 ∧ (co_rN p X k).2 ≤ k := by
  induction k with
  | zero => exact ⟨w0, s, rfl, fun _ => rfl, rfl, Nat.le_refl _⟩
  | succ k ih =>
    obtain ⟨i1, i2, i3, i4, i5, i6⟩ := ih
    rw [co_rN]
    unfold co_rS
    by_cases h1 : co_rok (co_rN p X k).1 p k = true
    · rw [if_pos h1, if_pos h1, cx_b_ub]
      unfold co_rok at h1
      rw [ms_and_b, ms_and_b, ms_and_b] at h1
      obtain ⟨j1, j2, j3⟩ := bk_sz_addE (th := cx_a (co_rN p X k).1 2 (10 * k)) (a := co_pr (co_rN p X k).1 (10 * k + 1)) (b := co_pr (co_rN p X k).1 (10 * k + 3)) (c := co_pr (co_rN p X k).1 (10 * k + 5)) (e := co_pr (co_rN p X k).1 (10 * k + 7)) (w := cx_a (co_rN p X k).1 2 (10 * k + 9)) i1 i2 (by rw [i3]; exact hp) h1.2.2.2
      exact ⟨j1, j2, by rw [j3, i3], i4, i5, Nat.succ_le_succ i6⟩
    · rw [if_neg h1, if_neg h1]
      exact ⟨i1, i2, i3, i4, i5, Nat.le_succ_of_le i6⟩
def co_readRow (X : cx_T) (n : Nat) (p : Int32) : Int32 × cx_T := if ms_ix (bk_pc (cx_b X 6)) p then (if n = 0 then (-6, X) else (nI (co_rN p.toNatClampNeg X (n / 10)).2, co_forget (co_rN p.toNatClampNeg X (n / 10)).1)) else (-2, X)
theorem c8_readRow {p : Int32} (w0 : bk_w (cx_b X 6)) (s : bk_sz (cx_b X 6)) (h1 : cx_i X 1 1 = nI n) (hn : n ≤ 400) (tp : co_tp X) : ms_Cl (d + 6) 101 [.ref 0, .int p] (ms_x X t) (some (.int (co_readRow X n p).1)) (ms_x (co_readRow X n p).2 t) := by
  refine m_X8_readRow ms_x_l ms_x_t ⟨_, xo_0⟩ (b_X8_readRow_0 (Q := ms_lf _ _) ?_)
  unfold co_readRow
  simp only [xf_0_2, ms_oR_e]
  refine ms_c1_i (c_hasPaper (xb_6 w0)) (ms_ifT (fun h3 => ?_) (fun h3 => ?_)) <;> rw [h3]
  · exact ⟨rfl, rfl⟩
  rw [if_pos rfl]
  simp only [xf_0_0, ms_oR_e, xf_1_1, ms_oI_e]
  rw [h1]
  refine ms_ite2 (fun h4 => ?_) (fun h4 => ?_)
  · rw [show (0 : Int32) = nI 0 from rfl, ms_nI_eq (by omega) (by decide)] at h4
    rw [if_pos h4]
    exact ⟨rfl, rfl⟩
  rw [show (0 : Int32) = nI 0 from rfl, ms_nI_eq (by omega) (by decide)] at h4
  rw [if_neg h4]
  obtain ⟨k, hk, e1, e2, _⟩ := ms_ix_k h3
  rw [e2, e1]
  suffices H : ∀ r j, j + r = n / 10 → ms_V cd_X8_readRow none 1 (ms_Cl (d + 5)) (ms_lf (some (.int (nI (co_rN k X (n / 10)).2))) (ms_x (co_forget (co_rN k X (n / 10)).1) t)) 31 [(0, .ref 0), (1, .int (nI k)), (2, .int (nI (co_rN k X j).2)), (3, .int (nI (10 * j)))] [] (ms_x (co_rN k X j).1 t) from H (n / 10) 0 (by omega)
  intro r
  induction r with
  | zero =>
    intro j hj
    obtain ⟨i1, i2, i3, i4, i5, i6⟩ := co_rN_i w0 s hk j
    refine b_X8_readRow_31 ?_
    simp only [xf_0_0, ms_oR_e, xf_1_1, ms_oI_e]
    rw [i5, h1, show nI (10 * j) + 10 = nI (10 * j + 10) from ms_p1 10]
    refine ms_yes ((ms_nlt (by omega) (by omega)).mpr (by omega)) ?_
    simp only [xf_0_5, ms_oR_e]
    refine ms_c0_i c8_forget ?_
    rw [show j = n / 10 by omega]
    exact ⟨rfl, rfl⟩
  | succ r ih =>
    intro j hj
    obtain ⟨i1, i2, i3, i4, i5, i6⟩ := co_rN_i w0 s hk j
    refine b_X8_readRow_31 ?_
    simp only [xf_0_0, ms_oR_e, xf_1_1, ms_oI_e]
    rw [i5, h1, show nI (10 * j) + 10 = nI (10 * (j + 1)) from ms_p1 10]
    refine ms_no (fun z => ?_) ?_
    · have := (ms_nlt (by omega) (by omega)).mp z
      omega
    refine ms_c1_i (c8_addFromTape (n := n) i1 i2 (by rw [i3]; exact hk) (by rw [i5, h1]) hn (by omega) (fun q hq => by rw [i4]; exact tp q hq)) ?_
    have H := ih (j + 1) (by omega)
    rw [co_rN] at H
    refine ms_ifT (fun h5 => ?_) (fun h5 => ?_)
    · rw [if_neg (by rw [h5]; decide)] at H
      exact H
    · rw [if_pos h5] at H
      rw [show nI (co_rN k X j).2 + 1 = nI ((co_rN k X j).2 + 1) from ms_p1 1]
      exact H
def co_row (X : cx_T) (n : Nat) (p : Int32) : Int32 × cx_T := ((co_readRow X n p).1, if 0 ≤ (co_readRow X n p).1 then co_acc (cx_ui (co_readRow X n p).2 1 1 0) else co_ref (cx_ui (co_readRow X n p).2 1 1 0) (co_readRow X n p).1)
theorem c8_row {p : Int32} (w0 : bk_w (cx_b X 6)) (s : bk_sz (cx_b X 6)) (h1 : cx_i X 1 1 = nI n) (hn : n ≤ 400) (tp : co_tp X) : ms_Cl (d + 7) 100 [.ref 0, .int p] (ms_x X t) (some (.int (co_row X n p).1)) (ms_x (co_row X n p).2 t) := by
  refine m_X8_row ms_x_l ms_x_t ⟨_, xo_0⟩ (b_X8_row_0 (Q := ms_lf _ _) ?_)
  refine ms_c1_i (c8_readRow w0 s h1 hn tp) ?_
  simp only [xf_0_0, ms_oR_e, xp_1_1]
  unfold co_row
  refine ms_ite2 (fun z => ?_) (fun z => ?_)
  · rw [if_pos z]
    exact ms_c1_i c8_accept ⟨rfl, rfl⟩
  · rw [if_neg z]
    exact ms_c1_i c8_refuse ⟨rfl, rfl⟩
end Rdrow
