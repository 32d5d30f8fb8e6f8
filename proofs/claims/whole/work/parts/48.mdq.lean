/-! CONTRACTS: the model's row: written by wip/whole/mdl.py from mdq.txt -/
section Mdq
variable {d : Nat} {h t : ms_S} {M : md_T} {n : Nat}
theorem nI_div {a b : Nat} (ha : a < 2 ^ 31) (h0 : 0 < b) (hd : b < 2 ^ 31) : nI a / nI b = nI (a / b) := pk_div ha h0 hd
theorem c9_rowStep {Q : Option Value → ms_S → Prop} {p : Int32} {nt ne T k cnt : Nat} (ht : md_a M 3 0 = nI nt) (hnt : nt ≤ 8) (h2 : md_a M 3 2 = nI ne) (hne : ne ≤ 120) (hT : T ≤ 400) (hk : k < T / 10) (H : ms_V cd_X9_row none 1 (ms_Cl (d + 4)) Q 46 [(0, .ref h.length), (1, .int p), (2, .int (nI T)), (3, .int (nI (if md_rok M nt ne p k then cnt + 1 else cnt))), (4, .int (nI (k + 1)))] [] (ms_m h (if md_rok M nt ne p k then md_addE M ne p (md_a M 7 (10 * k)) (md_pr M (10 * k + 1)) (md_pr M (10 * k + 3)) (md_pr M (10 * k + 5)) (md_pr M (10 * k + 7)) (md_a M 7 (10 * k + 9)) else M) t)) : ms_V cd_X9_row none 1 (ms_Cl (d + 4)) Q 46 [(0, .ref h.length), (1, .int p), (2, .int (nI T)), (3, .int (nI cnt)), (4, .int (nI k))] [] (ms_m h M t) := by
  refine b_X9_row_46 ⟨by decide, ms_no (fun c => ?_) ?_⟩
  · rw [show (10 : Int32) = nI 10 from rfl, nI_div (by omega) (by decide) (by decide)] at c
    have := (ms_nle (by omega) (by omega)).mp c
    omega
  have hi : ∀ j, j ≤ 9 → vp_in (nI (10 * k + j)) 400 := fun j hj => ms_in (by omega) (by decide)
  have hc : ∀ j, j ≤ 9 → (nI (10 * k + j)).toNatClampNeg = 10 * k + j := fun j hj => ms_nc (by omega)
  simp only [ms_oR_e, ms_oI_e, ms_oL_e, mm_f7, mm_r7, mm_w7]
  rw [show (10 : Int32) * nI k = nI (10 * k) from nI_mul 10 k]
  rw [show nI (10 * k) + 1 = nI (10 * k + 1) from ms_p1 1, show nI (10 * k) + 2 = nI (10 * k + 2) from ms_p1 2, show nI (10 * k) + 3 = nI (10 * k + 3) from ms_p1 3, show nI (10 * k) + 4 = nI (10 * k + 4) from ms_p1 4, show nI (10 * k) + 5 = nI (10 * k + 5) from ms_p1 5, show nI (10 * k) + 6 = nI (10 * k + 6) from ms_p1 6, show nI (10 * k) + 7 = nI (10 * k + 7) from ms_p1 7, show nI (10 * k) + 8 = nI (10 * k + 8) from ms_p1 8, show nI (10 * k) + 9 = nI (10 * k + 9) from ms_p1 9, show nI k + 1 = nI (k + 1) from ms_p1 1]
  rw [hc 1 (by decide), hc 2 (by decide), hc 3 (by decide), hc 4 (by decide), hc 5 (by decide), hc 6 (by decide), hc 7 (by decide), hc 8 (by decide), show (nI (10 * k)).toNatClampNeg = 10 * k from hc 0 (by decide)]
  refine ⟨hi 1 (by decide), hi 2 (by decide), hi 3 (by decide), hi 4 (by decide), hi 5 (by decide), hi 6 (by decide), hi 7 (by decide), hi 8 (by decide), hi 0 (by decide), ?_⟩
  unfold md_rok at H
  refine ms_c1_i (c9_isThing (n := nt) ht (by omega)) (ms_ifT (fun h1 => ?_) (fun h1 => ?_)) <;> rw [h1] at H
  · exact H
  simp only [ms_oR_e, ms_oI_e, ms_oL_e, mm_f7, mm_r7, mm_w7]
  rw [hc 9 (by decide)]
  refine ⟨hi 9 (by decide), ?_⟩
  refine ms_c1_i c9_areFields (ms_ifT (fun h3 => ?_) (fun h3 => ?_)) <;> rw [show md_fields (md_pr M (10 * k + 1)) (md_pr M (10 * k + 3)) (md_pr M (10 * k + 5)) (md_pr M (10 * k + 7)) (md_a M 7 (10 * k + 9)) = _ from h3] at H
  · exact H
  refine ms_c1_i (c9_isRoom h2 hne) (ms_ifT (fun h4 => ?_) (fun h4 => ?_)) <;> rw [h4] at H
  · exact H
  simp only [ms_oR_e, ms_oI_e, ms_oL_e, mm_f7, mm_r7, mm_w7]
  rw [hc 9 (by decide), show (nI (10 * k)).toNatClampNeg = 10 * k from hc 0 (by decide)]
  refine ⟨hi 0 (by decide), hi 9 (by decide), ?_⟩
  rw [ms_and_b, decide_eq_true_eq] at h4
  refine ms_c0_i (c9_addEntry h2 h4.1) ?_
  rw [show nI cnt + 1 = nI (cnt + 1) from ms_p1 1]
  exact H
def mo_row (M : md_T) (nt np ne T : Nat) (p : Int32) : Int32 × md_T := if ms_ix np p then (if T = 0 then (-6, md_tell (md_ui (md_ui M 0 0) 8 0) (-6)) else (nI (mo_rowN nt p (md_ui (md_ui M 0 0) 8 0) ne (T / 10)).2.2, md_tell (mo_rowN nt p (md_ui (md_ui M 0 0) 8 0) ne (T / 10)).1 (nI (mo_rowN nt p (md_ui (md_ui M 0 0) 8 0) ne (T / 10)).2.2))) else (-2, md_tell (md_ui (md_ui M 0 0) 8 0) (-2))
theorem c9_row {p : Int32} {nt np ne T : Nat} (ht : md_a M 3 0 = nI nt) (hnt : nt ≤ 8) (hp : md_a M 3 1 = nI np) (hnp : np ≤ 16) (h2 : md_a M 3 2 = nI ne) (hne : ne ≤ 120) (h8 : md_i M 8 = nI T) (hT : T ≤ 400) : ms_Cl (d + 5) 166 [.ref h.length, .int p] (ms_m h M t) (some (.int (mo_row M nt np ne T p).1)) (ms_m h (mo_row M nt np ne T p).2 t) := by
  refine m_X9_row ms_m_l ms_m_t ⟨_, ms_m_0⟩ (b_X9_row_0 (Q := ms_lf _ _) ?_)
  simp only [ms_oR_e, ms_oI_e, ms_oL_e, mm_f0, mm_p0, mm_f8, mm_p8]
  rw [md_i_ne (by decide), h8]
  unfold mo_row
  refine ms_c1_i (c9_isPaper (n := np) hp (by omega)) (ms_ifT (fun h3 => ?_) (fun h3 => ?_)) <;> rw [h3]
  · exact ms_c1_i (c9_tell (Or.inr (by unfold vp_in; decide))) ⟨rfl, rfl⟩
  rw [if_pos rfl]
  refine ms_ite2 (fun h4 => ?_) (fun h4 => ?_)
  · rw [show (0 : Int32) = nI 0 from rfl, ms_nI_eq (by omega) (by decide)] at h4
    rw [if_pos h4]
    exact ms_c1_i (c9_tell (Or.inr (by unfold vp_in; decide))) ⟨rfl, rfl⟩
  rw [show (0 : Int32) = nI 0 from rfl, ms_nI_eq (by omega) (by decide)] at h4
  rw [if_neg h4]
  generalize hM0 : md_ui (md_ui M 0 0) 8 0 = M0
  have k0 : md_a M0 3 0 = nI nt := by rw [← hM0]; exact ht
  have k2 : md_a M0 3 2 = nI ne := by rw [← hM0]; exact h2
  suffices H : ∀ r k, k + r = T / 10 → ms_V cd_X9_row none 1 (ms_Cl (d + 4)) (ms_lf (some (.int (nI (mo_rowN nt p M0 ne (T / 10)).2.2))) (ms_m h (md_tell (mo_rowN nt p M0 ne (T / 10)).1 (nI (mo_rowN nt p M0 ne (T / 10)).2.2)) t)) 46 [(0, .ref h.length), (1, .int p), (2, .int (nI T)), (3, .int (nI (mo_rowN nt p M0 ne k).2.2)), (4, .int (nI k))] [] (ms_m h (mo_rowN nt p M0 ne k).1 t) from H (T / 10) 0 (by omega)
  intro r
  induction r with
  | zero =>
    intro k hk
    refine b_X9_row_46 ⟨by decide, ms_yes ?_ ?_⟩
    · rw [show (10 : Int32) = nI 10 from rfl, nI_div (by omega) (by decide) (by decide)]
      exact (ms_nle (by omega) (by omega)).mpr (by omega)
    have hi := (mo_rowN_i (nt := nt) (p := p) k2 hne k).2.2.2.2
    refine ms_c1_i (c9_tell (Or.inl (ms_nI_0 (by omega)))) ?_
    rw [show k = T / 10 by omega]
    exact ⟨rfl, rfl⟩
  | succ r ih =>
    intro k hk
    obtain ⟨i1, i2, i3, i4, i5⟩ := mo_rowN_i (nt := nt) (p := p) k2 hne k
    refine c9_rowStep (nt := nt) (ne := (mo_rowN nt p M0 ne k).2.1) (by rw [i2 0 (by decide), k0]) hnt i3 i4 hT (by omega) ?_
    have H := ih (k + 1) (by omega)
    rw [mo_rowN] at H
    by_cases h5 : md_rok (mo_rowN nt p M0 ne k).1 nt (mo_rowN nt p M0 ne k).2.1 p k = true
    · rw [if_pos h5] at H
      rw [if_pos h5, if_pos h5]
      unfold md_pr at H ⊢
      simp only [i1]
      exact H
    · rw [if_neg h5] at H
      rw [if_neg h5, if_neg h5]
      exact H
end Mdq
