/-! THE MODEL'S next; written by wip/whole/mdl.py from zf_ny.txt -/
section Ny
variable {b : Nat → Nat} {n s e f k c d p : Nat} {l : List Nat} {P : Nat → Bool} {h t : ms_S} {M N : md_T} {g : ms_S}
theorem byts_all (hall : ∀ i, p ≤ i → i < e → ltr (b i) = true) : ∀ c, c ∈ byts b p e → ltr c = true := by
  intro c hc
  unfold byts at hc
  obtain ⟨i, hi, rfl⟩ := List.mem_map.mp hc
  have := List.mem_range.mp hi
  exact hall (p + i) (by omega) (by omega)
theorem n_next149 : ∀ r e N, e + r = n → md_fr g12 M N → TP N b n → md_i N 11 = 1 → md_i N 9 = nI p → md_i N 10 = nI e → p ≤ e → (∀ i, p ≤ i → i < e → ltr (b i) = true) → wthL (md_l N 12) (byts b p e) → ms_V cd_X9_next none 0 (ms_Cl (d + 1)) (gN g12 h M t (fun L => md_i L 9 = nI p ∧ md_i L 11 = 1 ∧ md_i L 10 = nI (run ltr b n n e) ∧ wthL (md_l L 12) (byts b p (run ltr b n n e)))) 149 [(0, .ref h.length)] [] (ms_m h N t) := by
  have out : ∀ e N, md_fr g12 M N → md_i N 11 = 1 → md_i N 9 = nI p → md_i N 10 = nI e → run ltr b n n e = e → wthL (md_l N 12) (byts b p e) → ms_V cd_X9_next none 0 (ms_Cl (d + 1)) (gN g12 h M t (fun L => md_i L 9 = nI p ∧ md_i L 11 = 1 ∧ md_i L 10 = nI (run ltr b n n e) ∧ wthL (md_l L 12) (byts b p (run ltr b n n e)))) 243 [(0, .ref h.length)] [] (ms_m h N t) := by
    intro e N hf h11 h9 h10 hr hl
    refine b_X9_next_243 (ms_oI_i mm_f11 ?_)
    rw [h11]
    refine ms_no (by decide) ⟨N, hf, rfl, rfl, h9, h11, ?_⟩
    rw [hr]
    exact ⟨h10, hl⟩
  intro r
  induction r with
  | zero =>
    intro e N he hf hT h11 h9 h10 hpe hall hl
    have hn := hT.1
    refine b_X9_next_149 (ms_oI_i mm_f11 (ms_yes h11 (ms_oI_i mm_f10 (ms_oI_i mm_f8 ?_))))
    rw [h10, hT.2.1]
    exact ms_yes ((ms_nle (by omega) (by omega)).mpr (by omega)) (out e N hf h11 h9 h10 (run_no (fun z => by omega)) hl)
  | succ r ih =>
    intro e N he hf hT h11 h9 h10 hpe hall hl
    have hn := hT.1
    have hb := (hT.2.2 e (by omega)).2
    refine b_X9_next_149 (ms_oI_i mm_f11 (ms_yes h11 (ms_oI_i mm_f10 (ms_oI_i mm_f8 ?_))))
    rw [h10, hT.2.1]
    refine ms_no (fun z => by rw [ms_nle (by omega) (by omega)] at z; omega) (ms_oR_i mm_f7 (ms_oI_i mm_f10 ?_))
    rw [h10, mm_r7]
    refine ⟨ms_in (by omega) (by decide), ?_⟩
    rw [ms_nc (by omega), (hT.2.2 e (by omega)).1]
    refine ms_c1_i (n_small hb) (ms_ifT (fun hg => ?_) (fun hg => ?_))
    · exact out e N hf h11 h9 h10 (run_no (fun z => by rw [hg] at z; exact absurd z.2 (by decide))) hl
    · have hlt := of_decide_eq_true hg
      rw [run_yes (by omega) hg]
      have hall2 : ∀ i, p ≤ i → i < e + 1 → ltr (b i) = true := fun i h1 h2 => by
        by_cases hi : i = e
        · rw [hi]; exact hg
        · exact hall i h1 (by omega)
      have hbs := byts_s (b := b) hpe
      have hlen := byts_len (b := b) (s := p) (e := e)
      refine ms_oI_i mm_f10 (ms_oI_i mm_f9 ?_)
      rw [h10, h9, nI_subk hpe, show (10 : Int32) = nI 10 from rfl]
      refine ms_ite2 (fun z => ?_) (fun z => ?_) <;> rw [ms_nle (by omega) (by omega)] at z
      · rw [mm_p12]
        refine ms_oI_i mm_f10 ?_
        rw [md_i_ul, h10, mm_p10, show nI e + 1 = nI (e + 1) from ms_p1 1]
        refine ih (e + 1) _ (by omega) (mr_i (mr_l hf (by decide)) (by decide)) (TP_i (TP_l hT) (by decide)) ?_ ?_ md_i_at (by omega) hall2 ?_
        · rw [md_i_ne (by decide), md_i_ul]; exact h11
        · rw [md_i_ne (by decide), md_i_ul]; exact h9
        · rw [md_l_ui, md_l_at]
          unfold wthL
          rw [hbs, List.length_append, List.length_singleton, if_neg (by omega)]
      · refine ms_oL_i mm_f12 (ms_oR_i mm_f7 (ms_oI_i mm_f10 ?_))
        rw [h10, mm_r7]
        refine ⟨ms_in (by omega) (by decide), ?_⟩
        rw [ms_nc (by omega), (hT.2.2 e (by omega)).1, mm_p12]
        refine ms_oI_i mm_f10 ?_
        rw [md_i_ul, h10, mm_p10, show nI e + 1 = nI (e + 1) from ms_p1 1]
        refine ih (e + 1) _ (by omega) (mr_i (mr_l hf (by decide)) (by decide)) (TP_i (TP_l hT) (by decide)) ?_ ?_ md_i_at (by omega) hall2 ?_
        · rw [md_i_ne (by decide), md_i_ul]; exact h11
        · rw [md_i_ne (by decide), md_i_ul]; exact h9
        · rw [md_l_ui, md_l_at]
          unfold wthL at hl ⊢
          rw [if_pos (by omega)] at hl
          rw [hbs, List.length_append, List.length_singleton, if_pos (by omega), List.reverse_append]
          show isL _ (hr (b e :: (byts b p e).reverse))
          show isL _ (hr (byts b p e).reverse * 32 + (b e - 96))
          have hlt2 := hr_lt (byts b p e).reverse (fun c hc => byts_all hall c (List.mem_reverse.mp hc))
          rw [List.length_reverse, hlen] at hlt2
          have h45 : 32 ^ (e - p) ≤ 32 ^ 9 := Nat.pow_le_pow_right (by decide) (by omega)
          have h45' : hr (byts b p e).reverse < 35184372088832 := Nat.lt_of_lt_of_le hlt2 (Nat.le_trans h45 (by decide))
          generalize hr (byts b p e).reverse = H at hl h45' ⊢
          rw [show H * 32 + (b e - 96) = H * 32 + b e - 96 by omega]
          exact isL_s (isL_a (isL_m hl (show isL (32 : Int64) 32 by unfold isL; decide) (by omega)) (isL_dL (n := b e) (by omega)) (by omega)) (show isL (96 : Int64) 96 by unfold isL; decide) (by omega) (by omega)
end Ny
