/-! CONTRACTS: the class's tape, entries, rows of the tape: written by wip/whole/mdl.py from tape.txt -/
def co_by (X : cx_T) (x : Int32) : cx_T := cx_ui (cx_ua X 2 (cx_i X 1 1).toNatClampNeg x) 1 1 (cx_i X 1 1 + 1)
def co_four (X : cx_T) (v : Int32) : cx_T := co_by (co_by (co_by (co_by X (md_sh v 24)) (md_sh v 16)) (md_sh v 8)) (md_sh v 0)
theorem cx_i_at {X : cx_T} {c k : Nat} {x : Int32} : cx_i (cx_ui X c k x) c k = x := by
  unfold cx_i cx_ui upd
  simp only [if_true]
section Tape
variable {d : Nat} {X : cx_T} {t : ms_S} {n : Nat}
theorem co_by_1 {x : Int32} (h0 : cx_i X 1 1 = nI n) : cx_i (co_by X x) 1 1 = nI (n + 1) := by
  unfold co_by
  rw [cx_i_at, h0]
  exact ms_p1 1
theorem c6_addStep {Q : Option Value → ms_S → Prop} {v k : Int32} (hk : ¬ k < 0) (h0 : cx_i X 1 1 = nI n) (hn : n < 400) (H : ms_V cd_X6_add none 0 (ms_Cl d) Q 3 [(0, .ref 1), (1, .int v), (2, .int (k + (-8)))] [] (ms_x (co_by X (md_sh v k)) t)) : ms_V cd_X6_add none 0 (ms_Cl d) Q 3 [(0, .ref 1), (1, .int v), (2, .int k)] [] (ms_x X t) := by
  refine b_X6_add_3 (ms_no hk ?_)
  simp only [xf_1_1, xf_1_0, ms_oI_e, ms_oR_e]
  refine ms_no (fun z => absurd (ms_nI_0 (n := n) (by omega)) (Int32.not_le.mpr (h0 ▸ z))) (ms_no (fun z => ?_) ?_)
  · rw [h0] at z
    have := (ms_nle (a := 400) (by decide) (by omega)).mp z
    omega
  simp only [xw_2, xf_1_1, ms_oI_e, xp_1_1]
  refine ⟨?_, H⟩
  rw [h0]
  exact ms_in hn (by decide)
theorem c6_add {v : Int32} (h0 : cx_i X 1 1 = nI n) (hn : n + 4 ≤ 400) : ms_Cl (d + 1) 92 [.ref 1, .int v] (ms_x X t) none (ms_x (co_four X v) t) := by
  refine m_X6_add ms_x_l ms_x_t ⟨_, xo_1⟩ (b_X6_add_0 (Q := ms_lf _ _) ?_)
  refine c6_addStep (k := 24) (by decide) h0 (by omega) ?_
  rw [show (24 : Int32) + (-8) = 16 by decide]
  have h1 := co_by_1 (x := md_sh v 24) h0
  refine c6_addStep (k := 16) (by decide) h1 (by omega) ?_
  rw [show (16 : Int32) + (-8) = 8 by decide]
  have h2 := co_by_1 (x := md_sh v 16) h1
  refine c6_addStep (k := 8) (by decide) h2 (by omega) ?_
  rw [show (8 : Int32) + (-8) = 0 by decide]
  have h3 := co_by_1 (x := md_sh v 8) h2
  refine c6_addStep (k := 0) (by decide) h3 (by omega) ?_
  exact b_X6_add_3 (ms_yes (by decide) ⟨rfl, rfl⟩)
theorem co_four_1 {v : Int32} (h0 : cx_i X 1 1 = nI n) : cx_i (co_four X v) 1 1 = nI (n + 4) := by
  unfold co_four
  exact co_by_1 (co_by_1 (co_by_1 (co_by_1 h0)))
def co_five (X : cx_T) (a b c e f : Int32) : cx_T := co_four (co_four (co_four (co_four (co_four X a) b) c) e) f
def co_feed (X : cx_T) (n : Nat) (a b c e f : Int32) : Int32 × cx_T := if n + 20 ≤ 400 then (nI (n + 20), co_five X a b c e f) else (-1, X)
theorem c8_feed {a b c e f : Int32} (h1 : cx_i X 1 1 = nI n) (hn : n ≤ 400) : ms_Cl (d + 2) 105 [.ref 0, .int a, .int b, .int c, .int e, .int f] (ms_x X t) (some (.int (co_feed X n a b c e f).1)) (ms_x (co_feed X n a b c e f).2 t) := by
  refine m_X8_feed ms_x_l ms_x_t ⟨_, xo_0⟩ (b_X8_feed_0 (Q := ms_lf _ _) ?_)
  simp only [xf_0_0, xf_1_1, ms_oR_e, ms_oI_e]
  rw [h1, show nI n + 20 = nI (n + 20) from ms_p1 20]
  unfold co_feed
  by_cases h2 : n + 20 ≤ 400
  · refine ms_yes ((ms_nle (b := 400) (by omega) (by decide)).mpr h2) ?_
    rw [if_pos h2]
    have h3 := co_four_1 (v := a) h1
    have h4 := co_four_1 (v := b) h3
    have h5 := co_four_1 (v := c) h4
    have h6 := co_four_1 (v := e) h5
    have h7 := co_four_1 (v := f) h6
    refine ms_c0_i (c6_add h1 (by omega)) ?_
    simp only [xf_0_0, ms_oR_e]
    refine ms_c0_i (c6_add h3 (by omega)) ?_
    simp only [xf_0_0, ms_oR_e]
    refine ms_c0_i (c6_add h4 (by omega)) ?_
    simp only [xf_0_0, ms_oR_e]
    refine ms_c0_i (c6_add h5 (by omega)) ?_
    simp only [xf_0_0, ms_oR_e]
    refine ms_c0_i (c6_add h6 (by omega)) ?_
    simp only [xf_0_0, xf_1_1, ms_oR_e, ms_oI_e]
    rw [h7]
    exact ⟨rfl, rfl⟩
  · refine ms_no (fun c => h2 ((ms_nle (b := 400) (by omega) (by decide)).mp c)) ?_
    rw [if_neg h2]
    exact ⟨rfl, rfl⟩
theorem c6_byteAt {k : Nat} (h1 : cx_i X 1 1 = nI n) (hn : n ≤ 400) (hk : k < n) : ms_Cl (d + 1) 93 [.ref 1, .int (nI k)] (ms_x X t) (some (.int (cx_a X 2 k))) (ms_x X t) := by
  refine m_X6_byteAt ms_x_l ms_x_t ⟨_, xo_1⟩ (b_X6_byteAt_0 (Q := ms_lf _ _) ?_)
  refine ms_no (fun z => absurd (ms_nI_0 (n := k) (by omega)) (Int32.not_le.mpr z)) ?_
  simp only [xf_1_1, xf_1_0, ms_oI_e, ms_oR_e]
  rw [h1]
  refine ms_no (fun z => by have := (ms_nle (by omega) (by omega)).mp z; omega) (ms_no (fun z => by have := (ms_nle (a := 400) (by decide) (by omega)).mp z; omega) ?_)
  simp only [xr_2]
  rw [ms_nc (by omega)]
  exact ⟨ms_in (by omega) (by decide), rfl, rfl⟩
def co_pr (X : cx_T) (j : Nat) : Int32 := cx_a X 2 j * 256 + cx_a X 2 (j + 1)
theorem c6_pairAt {k : Nat} (h1 : cx_i X 1 1 = nI n) (hn : n ≤ 400) (hk : k + 1 < n) (ha : cx_a X 2 k ≠ -1) (hb : cx_a X 2 (k + 1) ≠ -1) : ms_Cl (d + 2) 94 [.ref 1, .int (nI k)] (ms_x X t) (some (.int (co_pr X k))) (ms_x X t) := by
  refine m_X6_pairAt ms_x_l ms_x_t ⟨_, xo_1⟩ (b_X6_pairAt_0 (Q := ms_lf _ _) ?_)
  refine ms_c1_i (c6_byteAt h1 hn (by omega)) ?_
  rw [show nI k + 1 = nI (k + 1) from ms_p1 1]
  refine ms_c1_i (c6_byteAt h1 hn hk) ?_
  exact ms_no ha (ms_no hb ⟨rfl, rfl⟩)
def co_entry (X : cx_T) (p th a b c e w : Int32) : Int32 × cx_T := if sl_fs a b c e && sl_in w 9 then (if ms_ix (bk_pc (cx_b X 6)) p && ms_ix (bk_tc (cx_b X 6)) th then (if bk_room (cx_b X 6) p then (nI (bk_ec (cx_b X 6)), co_acc (cx_ub (co_forget X) 6 (bk_addE (cx_b X 6) p.toNatClampNeg th a b c e w))) else (-5, co_ref X (-5))) else (-2, co_ref X (-2))) else (-1, co_ref X (-1))
/-- the sizes of a book's lists -/
def bk_sz (B : bk_T) : Prop := ∀ p, p < bk_pc B → ∃ q, q ≤ 12 ∧ bk_pa B (p * 4 + 3) = nI q
theorem bk_room_q {B : bk_T} {p : Nat} (w0 : bk_w B) (s : bk_sz B) (hp : p < bk_pc B) (hr : bk_room B (nI p) = true) : ∃ q, q < 12 ∧ bk_pa B (p * 4 + 3) = nI q ∧ bk_ec B < 120 := by
  have hpc := w0.2.1
  obtain ⟨q, hq, e⟩ := s p hp
  unfold bk_room bk_of at hr
  rw [ms_ix_nI (by omega), decide_eq_true hp, ms_nc (by omega)] at hr
  rw [ms_and_b, decide_eq_true_eq, Bool.not_eq_true', decide_eq_false_iff_not] at hr
  have h2 := hr.2
  rw [show (bif true && ms_ix 4 3 then bk_pa B (p * 4 + (3 : Int32).toNatClampNeg) else -1) = bk_pa B (p * 4 + 3) from rfl, e] at h2
  refine ⟨q, ?_, e, hr.1⟩
  have := mt (ms_nle (a := 12) (b := q) (by decide) (by omega)).mpr h2
  omega
theorem c8_entry {p th a b c e w : Int32} (w0 : bk_w (cx_b X 6)) (s : bk_sz (cx_b X 6)) : ms_Cl (d + 5) 99 [.ref 0, .int p, .int th, .int a, .int b, .int c, .int e, .int w] (ms_x X t) (some (.int (co_entry X p th a b c e w).1)) (ms_x (co_entry X p th a b c e w).2 t) := by
  refine m_X8_entry ms_x_l ms_x_t ⟨_, xo_0⟩ (b_X8_entry_0 (Q := ms_lf _ _) ?_)
  unfold co_entry sl_fs
  refine ms_c1_i c_areFields (ms_ifT (fun h1 => ?_) (fun h1 => ?_)) <;> rw [h1]
  · exact ms_c1_i c8_refuse ⟨rfl, rfl⟩
  refine ms_c1_i c_within (ms_ifT (fun h2 => ?_) (fun h2 => ?_)) <;> rw [h2]
  · exact ms_c1_i c8_refuse ⟨rfl, rfl⟩
  rw [if_pos (show (true && true) = true from rfl)]
  simp only [xf_0_2, ms_oR_e]
  refine ms_c1_i (c_hasPaper (xb_6 w0)) (ms_ifT (fun h3 => ?_) (fun h3 => ?_)) <;> rw [h3]
  · exact ms_c1_i c8_refuse ⟨rfl, rfl⟩
  refine ms_c1_i (c_hasThing (xb_6 w0)) (ms_ifT (fun h4 => ?_) (fun h4 => ?_)) <;> rw [h4]
  · exact ms_c1_i c8_refuse ⟨rfl, rfl⟩
  rw [if_pos (show (true && true) = true from rfl)]
  refine ms_c1_i (c_hasRoomIn (xb_6 w0)) (ms_ifT (fun h5 => ?_) (fun h5 => ?_)) <;> rw [h5]
  · exact ms_c1_i c8_refuse ⟨rfl, rfl⟩
  rw [if_pos rfl]
  obtain ⟨k, hk, e1, e2, _⟩ := ms_ix_k h3
  rw [e2]
  rw [e1] at h5 ⊢
  obtain ⟨q, hq, eq, hec⟩ := bk_room_q w0 s hk h5
  simp only [xf_0_5, ms_oR_e]
  refine ms_c0_i c8_forget ?_
  simp only [xf_0_2, ms_oR_e]
  exact ms_c1_i (xm_6 (X := co_forget X) fun h t => cb_addEntry (B := cx_b X 6) w0 hk eq hq hec) (ms_c1_i c8_accept ⟨rfl, rfl⟩)
end Tape
