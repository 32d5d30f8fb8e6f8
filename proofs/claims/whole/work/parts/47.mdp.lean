/-! CONTRACTS: the model's row and images: written by wip/whole/mdl.py from mdp.txt -/
theorem ms_and_b {a b : Bool} : (a && b) = true ↔ a = true ∧ b = true := Bool.and_eq_true_iff
section Mdp
variable {d : Nat} {h t : ms_S} {M : md_T} {n : Nat}
def md_img (M : md_T) (k s j : Nat) : Int32 := if 18906 * k ≤ j ∧ j < 18906 * k + s then md_a M 3 (j - 18906 * k) else md_a M 5 j
theorem md_img_s {k s : Nat} : upd (md_img M k s) (18906 * k + s) (md_a M 3 s) = md_img M k (s + 1) := by
  funext j
  unfold upd md_img
  by_cases h1 : j = 18906 * k + s
  · rw [if_pos h1, if_pos (by omega), h1, show 18906 * k + s - 18906 * k = s by omega]
  · rw [if_neg h1]
    by_cases h2 : 18906 * k ≤ j ∧ j < 18906 * k + s
    · rw [if_pos h2, if_pos (by omega)]
    · rw [if_neg h2, if_neg (by omega)]
theorem ms_atI {k s : Nat} : (18906 : Int32) * nI k + nI s = nI (18906 * k + s) := by
  show nI 18906 * nI k + nI s = _
  rw [nI_mul, ms_p1]
def mo_image (M : md_T) (v : Int32) : Int32 × md_T := if md_in v 0 1 then (0, md_tell (md_ua (md_sa (md_ui M 0 0) 5 (md_img M v.toNatClampNeg 18906)) 6 v.toNatClampNeg 1) 0) else (-1, md_tell (md_ui M 0 0) (-1))
set_option maxRecDepth 20000 in
theorem c9_image {v : Int32} : ms_Cl (d + 2) 144 [.ref h.length, .int v] (ms_m h M t) (some (.int (mo_image M v).1)) (ms_m h (mo_image M v).2 t) := by
  refine m_X9_image ms_m_l ms_m_t ⟨_, ms_m_0⟩ (b_X9_image_0 (Q := ms_lf _ _) ?_)
  simp only [mm_p0]
  unfold mo_image
  refine ms_c1_i (c9_inI 0 1 (by decide) (by decide)) (ms_ifT (fun h1 => ?_) (fun h1 => ?_)) <;> rw [h1]
  · exact ms_c1_i (c9_tell (Or.inr (by unfold vp_in; decide))) ⟨rfl, rfl⟩
  rw [if_pos rfl]
  obtain ⟨k, hk, e1, e2⟩ := ms_in_k (k := 1) (by decide) h1
  rw [e2, e1]
  suffices H : ∀ r s, s + r = 18906 → ms_V cd_X9_image none 1 (ms_Cl (d + 1)) (ms_lf (some (.int 0)) (ms_m h (md_tell (md_ua (md_sa (md_ui M 0 0) 5 (md_img M k 18906)) 6 k 1) 0) t)) 23 [(0, .ref h.length), (1, .int (nI k)), (2, .int (nI s))] [] (ms_m h (md_sa (md_ui M 0 0) 5 (md_img M k s)) t) by
    have H0 := H 18906 0 rfl
    rw [show md_sa (md_ui M 0 0) 5 (md_img M k 0) = md_ui M 0 0 by
      rw [show md_img M k 0 = md_a (md_ui M 0 0) 5 by
        funext j
        unfold md_img
        rw [if_neg (by omega), md_a_ui]]
      exact md_sa_0] at H0
    exact H0
  intro r
  induction r with
  | zero =>
    intro s hs
    refine b_X9_image_23 (ms_yes ((ms_nle (a := 18906) (by decide) (by omega)).mpr (by omega)) ?_)
    simp only [ms_oR_e, ms_oI_e, ms_oL_e, mm_f6, mm_r6, mm_w6]
    refine ⟨ms_in (by omega) (by decide), by first | trivial | exact Or.inr rfl, ms_c1_i (c9_tell (Or.inl (by decide))) ?_⟩
    rw [show s = 18906 by omega, ms_nc (by omega)]
    exact ⟨rfl, rfl⟩
  | succ r ih =>
    intro s hs
    refine b_X9_image_23 (ms_no (fun c => ?_) ?_)
    · have := (ms_nle (a := 18906) (by decide) (by omega)).mp c
      omega
    simp only [ms_oR_e, ms_oI_e, ms_oL_e, mm_f3, mm_r3, mm_w3, mm_f5, mm_r5, mm_w5]
    rw [ms_atI, ms_nc (show s < 2 ^ 31 by omega), ms_nc (show 18906 * k + s < 2 ^ 31 by omega), md_a_sn (by decide), md_a_ui, md_sa_ua, md_img_s, show nI s + 1 = nI (s + 1) from ms_p1 1]
    exact ⟨ms_in (by omega) (by decide), ms_in (by omega) (by decide), ih (s + 1) (by omega)⟩
def md_bk (M : md_T) (k s j : Nat) : Int32 := if j < s then md_a M 5 (18906 * k + j) else md_a M 3 j
theorem md_bk_s {k s : Nat} : upd (md_bk M k s) s (md_a M 5 (18906 * k + s)) = md_bk M k (s + 1) := by
  funext j
  unfold upd md_bk
  by_cases h1 : j = s
  · rw [if_pos h1, if_pos (by omega), h1]
  · rw [if_neg h1]
    by_cases h2 : j < s
    · rw [if_pos h2, if_pos (by omega)]
    · rw [if_neg h2, if_neg (by omega)]
def mo_back (M : md_T) (v : Int32) : Int32 × md_T := if md_in v 0 1 then (if md_a M 6 v.toNatClampNeg = 0 then (-2, md_tell (md_ui M 0 0) (-2)) else (0, md_tell (md_sa (md_ui M 0 0) 3 (md_bk M v.toNatClampNeg 18906)) 0)) else (-1, md_tell (md_ui M 0 0) (-1))
set_option maxRecDepth 20000 in
theorem c9_back {v : Int32} : ms_Cl (d + 2) 145 [.ref h.length, .int v] (ms_m h M t) (some (.int (mo_back M v).1)) (ms_m h (mo_back M v).2 t) := by
  refine m_X9_back ms_m_l ms_m_t ⟨_, ms_m_0⟩ (b_X9_back_0 (Q := ms_lf _ _) ?_)
  simp only [mm_p0]
  unfold mo_back
  refine ms_c1_i (c9_inI 0 1 (by decide) (by decide)) (ms_ifT (fun h1 => ?_) (fun h1 => ?_)) <;> rw [h1]
  · exact ms_c1_i (c9_tell (Or.inr (by unfold vp_in; decide))) ⟨rfl, rfl⟩
  rw [if_pos rfl]
  obtain ⟨k, hk, e1, e2⟩ := ms_in_k (k := 1) (by decide) h1
  rw [e2, e1]
  simp only [ms_oR_e, ms_oI_e, ms_oL_e, mm_f6, mm_r6, mm_w6]
  rw [ms_nc (show k < 2 ^ 31 by omega), md_a_ui]
  refine ⟨ms_in (by omega) (by decide), ms_ite2 (fun h2 => ?_) (fun h2 => ?_)⟩
  · rw [if_pos h2]
    exact ms_c1_i (c9_tell (Or.inr (by unfold vp_in; decide))) ⟨rfl, rfl⟩
  rw [if_neg h2]
  suffices H : ∀ r s, s + r = 18906 → ms_V cd_X9_back none 1 (ms_Cl (d + 1)) (ms_lf (some (.int 0)) (ms_m h (md_tell (md_sa (md_ui M 0 0) 3 (md_bk M k 18906)) 0) t)) 39 [(0, .ref h.length), (1, .int (nI k)), (2, .int (nI s))] [] (ms_m h (md_sa (md_ui M 0 0) 3 (md_bk M k s)) t) by
    have H0 := H 18906 0 rfl
    rw [show md_sa (md_ui M 0 0) 3 (md_bk M k 0) = md_ui M 0 0 by
      rw [show md_bk M k 0 = md_a (md_ui M 0 0) 3 by
        funext j
        unfold md_bk
        rw [if_neg (by omega), md_a_ui]]
      exact md_sa_0] at H0
    exact H0
  intro r
  induction r with
  | zero =>
    intro s hs
    refine b_X9_back_39 (ms_yes ((ms_nle (a := 18906) (by decide) (by omega)).mpr (by omega)) ?_)
    refine ms_c1_i (c9_tell (Or.inl (by decide))) ?_
    rw [show s = 18906 by omega]
    exact ⟨rfl, rfl⟩
  | succ r ih =>
    intro s hs
    refine b_X9_back_39 (ms_no (fun c => ?_) ?_)
    · have := (ms_nle (a := 18906) (by decide) (by omega)).mp c
      omega
    simp only [ms_oR_e, ms_oI_e, ms_oL_e, mm_f3, mm_r3, mm_w3, mm_f5, mm_r5, mm_w5]
    rw [ms_atI, ms_nc (show s < 2 ^ 31 by omega), ms_nc (show 18906 * k + s < 2 ^ 31 by omega), md_a_sn (by decide), md_a_ui, md_sa_ua, md_bk_s, show nI s + 1 = nI (s + 1) from ms_p1 1]
    exact ⟨ms_in (by omega) (by decide), ms_in (by omega) (by decide), ih (s + 1) (by omega)⟩
def md_pr (M : md_T) (j : Nat) : Int32 := (md_a M 7 j <<< ((8 : Int32) &&& 31)) ||| md_a M 7 (j + 1)
def md_rok (M : md_T) (nt ne : Nat) (p : Int32) (k : Nat) : Bool := ms_ix nt (md_a M 7 (10 * k)) && (md_fields (md_pr M (10 * k + 1)) (md_pr M (10 * k + 3)) (md_pr M (10 * k + 5)) (md_pr M (10 * k + 7)) (md_a M 7 (10 * k + 9)) && (decide (ne < 120) && decide (md_cnt M p ne < 12)))
/-- the rows of the tape laid so far: the state, the entries, how many were taken -/
def mo_rowN (nt : Nat) (p : Int32) (M : md_T) (ne : Nat) : Nat → md_T × Nat × Nat
  | 0 => (M, ne, 0)
  | k + 1 => if md_rok (mo_rowN nt p M ne k).1 nt (mo_rowN nt p M ne k).2.1 p k then (md_addE (mo_rowN nt p M ne k).1 (mo_rowN nt p M ne k).2.1 p (md_a M 7 (10 * k)) (md_pr M (10 * k + 1)) (md_pr M (10 * k + 3)) (md_pr M (10 * k + 5)) (md_pr M (10 * k + 7)) (md_a M 7 (10 * k + 9)), (mo_rowN nt p M ne k).2.1 + 1, (mo_rowN nt p M ne k).2.2 + 1) else mo_rowN nt p M ne k
theorem md_lay_o {p j m : Nat} {a b c e w : Int32} (hj : j ≠ 3) : md_a (md_lay M p a b c e w) j m = md_a M j m := by
  unfold md_lay
  rw [md_a_ua, if_neg (fun q => hj q.1), md_a_ua, if_neg (fun q => hj q.1), md_a_ua, if_neg (fun q => hj q.1), md_a_ua, if_neg (fun q => hj q.1), md_a_ua, if_neg (fun q => hj q.1)]
theorem md_addE_o {j m n : Nat} {p th a b c e w : Int32} (hj : j ≠ 3) : md_a (md_addE M n p th a b c e w) j m = md_a M j m := by
  unfold md_addE
  rw [md_a_ua, if_neg (fun q => hj q.1), md_lay_o hj, md_a_ua, if_neg (fun q => hj q.1), md_a_ua, if_neg (fun q => hj q.1)]
theorem md_addE_s {m n : Nat} {p th a b c e w : Int32} (hm : m < 106 + 7 * n) (h2 : m ≠ 2) : md_a (md_addE M n p th a b c e w) 3 m = md_a M 3 m := by
  unfold md_addE
  rw [md_a_ne h2, md_lay_a (by omega), md_a_ne (by omega), md_a_ne (by omega)]
theorem mo_rowN_i {nt ne : Nat} {p : Int32} (h0 : md_a M 3 2 = nI ne) (hn : ne ≤ 120) (k : Nat) : (∀ j, md_a (mo_rowN nt p M ne k).1 7 j = md_a M 7 j) ∧ (∀ j, j < 2 → md_a (mo_rowN nt p M ne k).1 3 j = md_a M 3 j) ∧ md_a (mo_rowN nt p M ne k).1 3 2 = nI (mo_rowN nt p M ne k).2.1 ∧ (mo_rowN nt p M ne k).2.1 ≤ 120 ∧ (mo_rowN nt p M ne k).2.2 ≤ k := by
  induction k with
  | zero => exact ⟨fun _ => rfl, fun _ _ => rfl, h0, hn, Nat.le_refl _⟩
  | succ k ih =>
    obtain ⟨i1, i2, i3, i4, i5⟩ := ih
    unfold mo_rowN
    by_cases h1 : md_rok (mo_rowN nt p M ne k).1 nt (mo_rowN nt p M ne k).2.1 p k = true
    · rw [if_pos h1]
      unfold md_rok at h1
      rw [ms_and_b, ms_and_b, ms_and_b, decide_eq_true_eq] at h1
      refine ⟨fun j => ?_, fun j hj => ?_, ?_, h1.2.2.1, ?_⟩
      · rw [md_addE_o (by decide), i1]
      · rw [md_addE_s (by omega) (by omega), i2 j hj]
      · exact md_a_at
      · exact Nat.succ_le_succ i5
    · rw [if_neg h1]
      exact ⟨i1, i2, i3, i4, Nat.le_succ_of_le i5⟩
end Mdp
