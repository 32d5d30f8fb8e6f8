/-! CONTRACTS: the class's short methods: written by wip/whole/mdl.py from top.txt -/
def co_acc (X : cx_T) : cx_T := cx_ui X 0 11 0
def co_ref (X : cx_T) (v : Int32) : cx_T := cx_ua (cx_ui X 0 11 v) 64 (sl_place v) (cx_a X 64 (sl_place v) + 1)
def cx_sa (X : cx_T) (c : Nat) (f : Nat → Int32) : cx_T := (X.1, fun j => if j = c then f else X.2.1 j, X.2.2)
def co_forget (X : cx_T) : cx_T := cx_sa (cx_sa (cx_sa X 25 (ms_fill (cx_a X 25) 16 (-1))) 26 (ms_fill (cx_a X 26) 16 (-1))) 27 (ms_fill (cx_a X 27) 16 (-1))
section Top
variable {d : Nat} {X : cx_T} {t : ms_S}
theorem sl_place_lt (v : Int32) : sl_place v < 5 := by
  unfold sl_place
  repeat' split
  all_goals decide
theorem c8_accept {v : Int32} : ms_Cl (d + 1) 130 [.ref 0, .int v] (ms_x X t) (some (.int v)) (ms_x (co_acc X) t) := by
  refine m_X8_accept ms_x_l ms_x_t ⟨_, xo_0⟩ (b_X8_accept_0 (Q := ms_lf _ _) ?_)
  simp only [xp_0_11]
  exact ⟨rfl, rfl⟩
theorem c8_refuse {v : Int32} : ms_Cl (d + 2) 131 [.ref 0, .int v] (ms_x X t) (some (.int v)) (ms_x (co_ref X v) t) := by
  have hp := sl_place_lt v
  refine m_X8_refuse ms_x_l ms_x_t ⟨_, xo_0⟩ (b_X8_refuse_0 (Q := ms_lf _ _) ?_)
  simp only [xp_0_11, xf_0_10, ms_oR_e]
  refine ms_c1_i c_placeOf ?_
  simp only [xr_64, xw_64]
  rw [ms_nc (by omega)]
  exact ⟨ms_in (by omega) (by decide), ms_in (by omega) (by decide), rfl, rfl⟩
theorem cx_fill {c n : Nat} (h : ∀ X : cx_T, (cx_c X)[c]? = some (.inl (0, n, .inl (cx_a X c)))) (hs : ∀ (X : cx_T) f, (cx_c X).set c (.inl (0, n, .inl f)) = cx_c (cx_sa X c f)) (hn : n < 2 ^ 31) (hc : c < 65) {v : Int32} : ms_Cl (d + 1) 274 [.ref c, .int v] (ms_x X t) none (ms_x (cx_sa X c (ms_fill (cx_a X c) n v)) t) := by
  have k := c_fill (d := d) (v := v) (cx_get (t := t) (h X)) hn
  rw [cx_set _ _ (hs X _) hc] at k
  exact k
theorem c8_forget : ms_Cl (d + 2) 51 [.ref 24] (ms_x X t) none (ms_x (co_forget X) t) := by
  refine m_X3_forget ms_x_l ms_x_t ⟨_, xo_24⟩ (b_X3_forget_0 (Q := ms_lf _ _) ?_)
  simp only [xf_24_3, ms_oR_e]
  refine ms_c0_i (cx_fill (c := 25) (n := 16) (fun _ => rfl) (fun _ _ => rfl) (by decide) (by decide)) ?_
  simp only [xf_24_4, ms_oR_e]
  refine ms_c0_i (cx_fill (c := 26) (n := 16) (fun _ => rfl) (fun _ _ => rfl) (by decide) (by decide)) ?_
  simp only [xf_24_5, ms_oR_e]
  refine ms_c0_i (cx_fill (c := 27) (n := 16) (fun _ => rfl) (fun _ _ => rfl) (by decide) (by decide)) ?_
  exact ⟨rfl, rfl⟩
def sl_fs (a b c e : Int32) : Bool := sl_in a 9999 && (sl_in b 9999 && (sl_in c 9999 && sl_in e 9999))
def co_thing (X : cx_T) (a b c e w u : Int32) : Int32 × cx_T := if sl_fs a b c e && (sl_in w 9 && sl_in u 1) then (if bk_tc (cx_b X 6) < 8 then (nI (bk_tc (cx_b X 6)), co_acc (cx_ub X 6 (bk_addT (cx_b X 6) a b c e w u))) else (-5, co_ref X (-5))) else (-1, co_ref X (-1))
theorem c8_thing {a b c e w u : Int32} (w0 : bk_w (cx_b X 6)) : ms_Cl (d + 3) 97 [.ref 0, .int a, .int b, .int c, .int e, .int w, .int u] (ms_x X t) (some (.int (co_thing X a b c e w u).1)) (ms_x (co_thing X a b c e w u).2 t) := by
  have hw := w0.1
  refine m_X8_thing ms_x_l ms_x_t ⟨_, xo_0⟩ (b_X8_thing_0 (Q := ms_lf _ _) ?_)
  unfold co_thing sl_fs
  refine ms_c1_i c_areFields (ms_ifT (fun h1 => ?_) (fun h1 => ?_)) <;> rw [h1]
  · exact ms_c1_i c8_refuse ⟨rfl, rfl⟩
  refine ms_c1_i c_within (ms_ifT (fun h2 => ?_) (fun h2 => ?_)) <;> rw [h2]
  · exact ms_c1_i c8_refuse ⟨rfl, rfl⟩
  refine ms_c1_i c_within (ms_ifT (fun h3 => ?_) (fun h3 => ?_)) <;> rw [h3]
  · exact ms_c1_i c8_refuse ⟨rfl, rfl⟩
  rw [if_pos (show (true && (true && true)) = true from rfl)]
  simp only [xf_0_2, ms_oR_e, xf_6_5, ms_oI_e]
  by_cases h4 : bk_tc (cx_b X 6) < 8
  · rw [if_pos h4]
    refine ms_yes ((ms_nlt (b := 8) (by omega) (by decide)).mpr h4) ?_
    exact ms_c1_i (xm_6 fun h t => cb_addThing h4) (ms_c1_i c8_accept ⟨rfl, rfl⟩)
  · rw [if_neg h4]
    refine ms_no (fun z => h4 ((ms_nlt (b := 8) (by omega) (by decide)).mp z)) ?_
    exact ms_c1_i c8_refuse ⟨rfl, rfl⟩
def co_paper (X : cx_T) (a b c : Int32) : Int32 × cx_T := if sl_in a 399 && (sl_in b 7 && sl_in c 99) then (if bk_pc (cx_b X 6) < 16 then (nI (bk_pc (cx_b X 6)), co_acc (cx_ub (co_forget X) 6 (bk_addP (cx_b X 6) a b c))) else (-5, co_ref X (-5))) else (-1, co_ref X (-1))
theorem cx_b_forget {c : Nat} : cx_b (co_forget X) c = cx_b X c := rfl
theorem c8_paper {a b c : Int32} (w0 : bk_w (cx_b X 6)) : ms_Cl (d + 3) 98 [.ref 0, .int a, .int b, .int c] (ms_x X t) (some (.int (co_paper X a b c).1)) (ms_x (co_paper X a b c).2 t) := by
  have hw := w0.2.1
  refine m_X8_paper ms_x_l ms_x_t ⟨_, xo_0⟩ (b_X8_paper_0 (Q := ms_lf _ _) ?_)
  unfold co_paper
  refine ms_c1_i c_within (ms_ifT (fun h1 => ?_) (fun h1 => ?_)) <;> rw [h1]
  · exact ms_c1_i c8_refuse ⟨rfl, rfl⟩
  refine ms_c1_i c_within (ms_ifT (fun h2 => ?_) (fun h2 => ?_)) <;> rw [h2]
  · exact ms_c1_i c8_refuse ⟨rfl, rfl⟩
  refine ms_c1_i c_within (ms_ifT (fun h3 => ?_) (fun h3 => ?_)) <;> rw [h3]
  · exact ms_c1_i c8_refuse ⟨rfl, rfl⟩
  rw [if_pos (show (true && (true && true)) = true from rfl)]
  simp only [xf_0_2, xf_0_5, ms_oR_e, xf_6_6, ms_oI_e]
  by_cases h4 : bk_pc (cx_b X 6) < 16
  · rw [if_pos h4]
    refine ms_yes ((ms_nlt (b := 16) (by omega) (by decide)).mpr h4) ?_
    refine ms_c0_i c8_forget ?_
    simp only [xf_0_2, ms_oR_e]
    exact ms_c1_i (xm_6 (X := co_forget X) fun h t => cb_addPaper h4) (ms_c1_i c8_accept ⟨rfl, rfl⟩)
  · rw [if_neg h4]
    refine ms_no (fun z => h4 ((ms_nlt (b := 16) (by omega) (by decide)).mp z)) ?_
    exact ms_c1_i c8_refuse ⟨rfl, rfl⟩
theorem c8_fault : ms_Cl (d + 1) 108 [.ref 0] (ms_x X t) (some (.int (cx_i X 0 12))) (ms_x X t) := by
  refine m_X8_fault ms_x_l ms_x_t ⟨_, xo_0⟩ (b_X8_fault_0 (Q := ms_lf _ _) ?_)
  simp only [xf_0_12, ms_oI_e]
  exact ⟨rfl, rfl⟩
theorem c8_status : ms_Cl (d + 1) 129 [.ref 0] (ms_x X t) (some (.int (cx_i X 0 11))) (ms_x X t) := by
  refine m_X8_status ms_x_l ms_x_t ⟨_, xo_0⟩ (b_X8_status_0 (Q := ms_lf _ _) ?_)
  simp only [xf_0_11, ms_oI_e]
  exact ⟨rfl, rfl⟩
theorem c8_of {v w : Int32} (w0 : bk_w (cx_b X 6)) : ms_Cl (d + 3) 103 [.ref 0, .int v, .int w] (ms_x X t) (some (.int (bk_of (bk_ec (cx_b X 6)) 8 (bk_en (cx_b X 6)) v w))) (ms_x X t) := by
  refine m_X8_of ms_x_l ms_x_t ⟨_, xo_0⟩ (b_X8_of_0 (Q := ms_lf _ _) ?_)
  simp only [xf_0_2, ms_oR_e]
  exact ms_c1_i (c_ofEntry (xb_6 w0)) ⟨rfl, rfl⟩
def co_list (X : cx_T) (v w : Int32) : Int32 := if w = -1 then bk_of (bk_pc (cx_b X 6)) 4 (bk_pa (cx_b X 6)) v 3 else bk_eAt (cx_b X 6) v w
theorem c8_list {v w : Int32} (w0 : bk_w (cx_b X 6)) : ms_Cl (d + 4) 104 [.ref 0, .int v, .int w] (ms_x X t) (some (.int (co_list X v w))) (ms_x X t) := by
  refine m_X8_list ms_x_l ms_x_t ⟨_, xo_0⟩ (b_X8_list_0 (Q := ms_lf _ _) ?_)
  simp only [xf_0_2, ms_oR_e]
  unfold co_list
  refine ms_ite2 (fun z => ?_) (fun z => ?_)
  · rw [if_pos z]
    exact ms_c1_i (c_ofPaper (xb_6 w0)) ⟨rfl, rfl⟩
  · rw [if_neg z]
    exact ms_c1_i (c_entryAt (xb_6 w0)) ⟨rfl, rfl⟩
def co_end (X : cx_T) (v : Int32) : Int32 × cx_T := if v < 0 then (-1, X) else if v ≤ cx_i X 1 1 then (v, cx_ui X 1 1 v) else (-1, X)
theorem c8_end {v : Int32} : ms_Cl (d + 1) 106 [.ref 0, .int v] (ms_x X t) (some (.int (co_end X v).1)) (ms_x (co_end X v).2 t) := by
  refine m_X8_end ms_x_l ms_x_t ⟨_, xo_0⟩ (b_X8_end_0 (Q := ms_lf _ _) ?_)
  simp only [xf_0_0, xf_1_1, ms_oR_e, ms_oI_e, xp_1_1]
  unfold co_end
  by_cases h1 : v < 0
  · refine ms_yes h1 ?_
    rw [if_pos h1]
    exact ⟨rfl, rfl⟩
  · refine ms_no h1 ?_
    rw [if_neg h1]
    by_cases h2 : v ≤ cx_i X 1 1
    · refine ms_yes h2 ?_
      rw [if_pos h2]
      exact ⟨rfl, rfl⟩
    · refine ms_no h2 ?_
      rw [if_neg h2]
      exact ⟨rfl, rfl⟩
def co_count (X : cx_T) (v : Int32) : Int32 := if v = 0 then nI (bk_tc (cx_b X 6)) else if v = 1 then nI (bk_pc (cx_b X 6)) else if v = 2 then nI (bk_ec (cx_b X 6)) else if v = 3 then nI (bk_xc (cx_b X 6)) else if v = 4 then cx_i X 1 1 else if sl_in (v - 5) 4 then cx_a X 64 (v - 5).toNatClampNeg else -1
theorem sl_in_k {w : Int32} {k : Nat} (hk : k < 2 ^ 31) (h1 : sl_in w (nI k) = true) : ∃ j, j ≤ k ∧ w = nI j ∧ w.toNatClampNeg = j := by
  refine ms_in_k hk ?_
  unfold sl_in at h1
  unfold md_in
  rw [ms_and_b] at h1 ⊢
  have h2 := h1.1
  have h3 := h1.2
  rw [Bool.not_eq_true', decide_eq_false_iff_not] at h2 h3
  exact ⟨decide_eq_true (Int32.not_lt.mp h2), decide_eq_true (Int32.not_lt.mp h3)⟩
theorem c8_count {v : Int32} : ms_Cl (d + 2) 128 [.ref 0, .int v] (ms_x X t) (some (.int (co_count X v))) (ms_x X t) := by
  refine m_X8_count ms_x_l ms_x_t ⟨_, xo_0⟩ (b_X8_count_0 (Q := ms_lf _ _) ?_)
  simp only [xf_0_2, xf_6_5, xf_6_6, xf_6_7, xf_6_8, xf_0_0, xf_1_1, xf_0_10, ms_oR_e, ms_oI_e]
  unfold co_count
  refine ms_ite2 (fun e => ?_) (fun e => ?_)
  · rw [if_pos e]
    exact ⟨rfl, rfl⟩
  rw [if_neg e]
  refine ms_ite2 (fun e => ?_) (fun e => ?_)
  · rw [if_pos e]
    exact ⟨rfl, rfl⟩
  rw [if_neg e]
  refine ms_ite2 (fun e => ?_) (fun e => ?_)
  · rw [if_pos e]
    exact ⟨rfl, rfl⟩
  rw [if_neg e]
  refine ms_ite2 (fun e => ?_) (fun e => ?_)
  · rw [if_pos e]
    exact ⟨rfl, rfl⟩
  rw [if_neg e]
  refine ms_ite2 (fun e => ?_) (fun e => ?_)
  · rw [if_pos e]
    exact ⟨rfl, rfl⟩
  rw [if_neg e]
  unfold ms_aL
  rw [xe_64]
  show ms_c1 _ _
  rw [show Int32.ofNat 5 - 1 = 4 by decide]
  refine ms_c1_i c_within (ms_ifT (fun h1 => ?_) (fun h1 => ?_)) <;> rw [h1]
  · exact ⟨rfl, rfl⟩
  obtain ⟨j, hj, e1, e2⟩ := sl_in_k (k := 4) (by decide) h1
  simp only [xf_0_10, ms_oR_e, xr_64]
  refine ⟨?_, rfl, rfl⟩
  rw [e1]
  exact ms_in (by omega) (by decide)
end Top
