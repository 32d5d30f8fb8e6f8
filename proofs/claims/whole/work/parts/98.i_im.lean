/-! image and back of the class; forget of the trial's leasts; written by wip/whole/mdl.py from i_im.txt -/
def co_imb (k : Nat) : Nat := if k = 0 then 51 else 57
def co_imc (X : cx_T) (k : Nat) : cx_T := cx_ua (cx_ub X (co_imb k) (bk_cp (cx_b X (co_imb k)) (cx_b X 6))) 63 k 1
def co_image (X : cx_T) (v : Int32) : Int32 × cx_T := if ms_ix 2 v then (0, co_acc (co_imc X v.toNatClampNeg)) else (-1, co_ref X (-1))
def co_bac (X : cx_T) (k : Nat) : cx_T := co_forget (cx_ub X 6 (bk_cp (cx_b X 6) (cx_b X (co_imb k))))
def co_back (X : cx_T) (v : Int32) : Int32 × cx_T := if ms_ix 2 v then (if cx_a X 63 v.toNatClampNeg = 0 then (-2, co_ref X (-2)) else (0, co_acc (co_bac X v.toNatClampNeg))) else (-1, co_ref X (-1))
def co_forget2 (X : cx_T) : cx_T := cx_sa (cx_sa (cx_sa X 42 (ms_fill (cx_a X 42) 16 (-1))) 43 (ms_fill (cx_a X 43) 16 (-1))) 44 (ms_fill (cx_a X 44) 16 (-1))
section Iim
variable {d b i j k n : Nat} {h t : ms_S} {D S : bk_T} {X Y : cx_T}
theorem c8_forget2 : ms_Cl (d + 2) 51 [.ref 41] (ms_x X t) none (ms_x (co_forget2 X) t) := by
  refine m_X3_forget ms_x_l ms_x_t ⟨_, xo_41⟩ (b_X3_forget_0 (Q := ms_lf _ _) ?_)
  simp only [xf_41_3, ms_oR_e]
  refine ms_c0_i (cx_fill (c := 42) (n := 16) (fun _ => rfl) (fun _ _ => rfl) (by decide) (by decide)) ?_
  simp only [xf_41_4, ms_oR_e]
  refine ms_c0_i (cx_fill (c := 43) (n := 16) (fun _ => rfl) (fun _ _ => rfl) (by decide) (by decide)) ?_
  simp only [xf_41_5, ms_oR_e]
  refine ms_c0_i (cx_fill (c := 44) (n := 16) (fun _ => rfl) (fun _ _ => rfl) (by decide) (by decide)) ?_
  exact ⟨rfl, rfl⟩
theorem two {k : Nat} (h : k < 1 + 1) : k = 0 ∨ k = 1 := by omega
theorem c8_image {v : Int32} (hT : TO t (cx_b X 6)) : ms_Cl (d + 3) 126 [.ref 0, .int v] (ms_x X t) (some (.int (co_image X v).1)) (ms_x (co_image X v).2 t) := by
  refine m_X8_image ms_x_l ms_x_t ⟨_, xo_0⟩ (b_X8_image_0 (Q := ms_lf _ _) (ms_c1_i (k_within 1 (by decide)) ?_))
  unfold co_image
  refine ms_ifT (fun hg => ?_) (fun hg => ?_)
  · rw [hg]
    exact ms_c1_i c8_refuse ⟨rfl, rfl⟩
  obtain ⟨k, hk, rfl, e2, _⟩ := ms_ix_k hg
  rw [hg, e2, if_pos rfl]
  simp only [xf_0_8, xf_0_2, ms_oR_e]
  refine ms_rA_i (cx_get (c := 50) rfl) rfl (ms_in hk (by decide)) ?_
  rw [e2]
  rcases two hk with rfl | rfl
  · refine ms_c0_i (show ms_Cl _ 1 [.ref 51, .ref 6] (ms_x X t) none (ms_x (cx_ub X 51 (bk_cp (cx_b X 51) (cx_b X 6))) t) from cp_51 hT) ?_
    simp only [xf_0_9, ms_oR_e, xw_63]
    exact ⟨ms_in (by decide) (by decide), (by first | exact Or.inr rfl | exact Or.inl rfl | exact Or.inl trivial | exact Or.inr trivial | trivial), ms_c1_i c8_accept ⟨rfl, rfl⟩⟩
  · refine ms_c0_i (show ms_Cl _ 1 [.ref 57, .ref 6] (ms_x X t) none (ms_x (cx_ub X 57 (bk_cp (cx_b X 57) (cx_b X 6))) t) from cp_57 hT) ?_
    simp only [xf_0_9, ms_oR_e, xw_63]
    exact ⟨ms_in (by decide) (by decide), (by first | exact Or.inr rfl | exact Or.inl rfl | exact Or.inl trivial | exact Or.inr trivial | trivial), ms_c1_i c8_accept ⟨rfl, rfl⟩⟩
theorem c8_back {v : Int32} (hT : TO t (cx_b X 51)) (hT2 : TO t (cx_b X 57)) : ms_Cl (d + 3) 127 [.ref 0, .int v] (ms_x X t) (some (.int (co_back X v).1)) (ms_x (co_back X v).2 t) := by
  refine m_X8_back ms_x_l ms_x_t ⟨_, xo_0⟩ (b_X8_back_0 (Q := ms_lf _ _) (ms_c1_i (k_within 1 (by decide)) ?_))
  unfold co_back
  refine ms_ifT (fun hg => ?_) (fun hg => ?_)
  · rw [hg]
    exact ms_c1_i c8_refuse ⟨rfl, rfl⟩
  obtain ⟨k, hk, rfl, e2, _⟩ := ms_ix_k hg
  rw [hg, e2, if_pos rfl]
  simp only [xf_0_9, ms_oR_e, xr_63]
  refine ⟨ms_in hk (by decide), ?_⟩
  rw [e2]
  refine ms_ite2 (fun z => ?_) (fun z => ?_)
  · rw [if_pos z]
    exact ms_c1_i c8_refuse ⟨rfl, rfl⟩
  rw [if_neg z]
  simp only [xf_0_8, xf_0_2, ms_oR_e]
  refine ms_rA_i (cx_get (c := 50) rfl) rfl (ms_in hk (by decide)) ?_
  rw [e2]
  rcases two hk with rfl | rfl
  · refine ms_c0_i (show ms_Cl _ 1 [.ref 6, .ref 51] (ms_x X t) none (ms_x (cx_ub X 6 (bk_cp (cx_b X 6) (cx_b X 51))) t) from cp_6a hT) ?_
    simp only [xf_0_5, ms_oR_e]
    exact ms_c0_i c8_forget (ms_c1_i c8_accept ⟨rfl, rfl⟩)
  · refine ms_c0_i (show ms_Cl _ 1 [.ref 6, .ref 57] (ms_x X t) none (ms_x (cx_ub X 6 (bk_cp (cx_b X 6) (cx_b X 57))) t) from cp_6b hT2) ?_
    simp only [xf_0_5, ms_oR_e]
    exact ms_c0_i c8_forget (ms_c1_i c8_accept ⟨rfl, rfl⟩)
end Iim
