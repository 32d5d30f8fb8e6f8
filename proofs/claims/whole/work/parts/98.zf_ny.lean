/-! THE MODEL'S next; written by wip/whole/mdl.py from zf_ny.txt -/
section Ny
variable {b : Nat → Nat} {n s e f k c d p : Nat} {l : List Nat} {P : Nat → Bool} {h t : ms_S} {M N : md_T} {g : ms_S}
theorem byts_all (hall : ∀ i, p ≤ i → i < e → ltr (b i) = true) : ∀ c, c ∈ byts b p e → ltr c = true := by
  intro c hc
  unfold byts at hc
  obtain ⟨i, hi, rfl⟩ := List.mem_map.mp hc
  have := List.mem_range.mp hi
  exact hall (p + i) (by omega) (by omega)
theorem n_next149 : ∀ r e N, e + r = n → md_fr g12 M N → TP N b n → md_i N 11 = 1 → md_i N 9 = nI p → md_i N 10 = nI e → p ≤ e → (∀ i, p ≤ i → i < e → ltr (b i) = true) → wthL (md_l N 12) (byts b p e) → ms_V cd_X9_next none 0 (ms_Cl (d + 1)) (gN g12 h M t (fun L => md_i L 9 = nI p ∧ md_i L 11 = 1 ∧ md_i L 10 = nI (run ltr b n n e) ∧ wthL (md_l L 12) (byts b p (run ltr b n n e)))) 149 [(0, .ref h.length)] [] (ms_m h N t) := by
  have out : ∀ e N, md_fr g12 M N → md_i N 11 = 1 → md_i N 9 = nI p → md_i N 10 = nI e → run ltr b n n e = e → wthL (md_l N 12) (byts b p e) → ms_V cd_X9_next none 0 (ms_Cl (d + 1)) (gN g12 h M t (fun L => md_i L 9 = nI p ∧ md_i L 11 = 1 ∧ md_i L 10 = nI (run ltr b n n e) ∧ wthL (md_l L 12) (byts b p (run ltr b n n e)))) 243 [(0, .ref h.length)] [] (ms_m h N t) := by
    intro e N hf h11 h9 h10 hr hl
    refine b_X9_next_243 (ms_oI_i mm_f11 ?_)
    rw [h11]
    refine ms_no (by decide) ⟨N, hf, rfl, rfl, h9, h11, ?_⟩
    rw [hr]
    exact ⟨h10, hl⟩
  intro r
  induction r with
  | zero =>
    intro e N he hf hT h11 h9 h10 hpe hall hl
    have hn := hT.1
    refine b_X9_next_149 (ms_oI_i mm_f11 (ms_yes h11 (ms_oI_i mm_f10 (ms_oI_i mm_f8 ?_))))
    rw [h10, hT.2.1]
    exact ms_yes ((ms_nle (by omega) (by omega)).mpr (by omega)) (out e N hf h11 h9 h10 (run_no (fun z => by omega)) hl)
  | succ r ih =>
    intro e N he hf hT h11 h9 h10 hpe hall hl
    have hn := hT.1
    have hb := (hT.2.2 e (by omega)).2
    refine b_X9_next_149 (ms_oI_i mm_f11 (ms_yes h11 (ms_oI_i mm_f10 (ms_oI_i mm_f8 ?_))))
    rw [h10, hT.2.1]
    refine ms_no (fun z => by rw [ms_nle (by omega) (by omega)] at z; omega) (ms_oR_i mm_f7 (ms_oI_i mm_f10 ?_))
    rw [h10, mm_r7]
    refine ⟨ms_in (by omega) (by decide), ?_⟩
    rw [ms_nc (by omega), (hT.2.2 e (by omega)).1]
    refine ms_c1_i (n_small hb) (ms_ifT (fun hg => ?_) (fun hg => ?_))
    · exact out e N hf h11 h9 h10 (run_no (fun z => by rw [hg] at z; exact absurd z.2 (by decide))) hl
    · have hlt := of_decide_eq_true hg
      rw [run_yes (by omega) hg]
      have hall2 : ∀ i, p ≤ i → i < e + 1 → ltr (b i) = true := fun i h1 h2 => by
        by_cases hi : i = e
        · rw [hi]; exact hg
        · exact hall i h1 (by omega)
      have hbs := byts_s (b := b) hpe
      have hlen := byts_len (b := b) (s := p) (e := e)
      refine ms_oI_i mm_f10 (ms_oI_i mm_f9 ?_)
      rw [h10, h9, nI_subk hpe, show (10 : Int32) = nI 10 from rfl]
      refine ms_ite2 (fun z => ?_) (fun z => ?_) <;> rw [ms_nle (by omega) (by omega)] at z
      · rw [mm_p12]
        refine ms_oI_i mm_f10 ?_
        rw [md_i_ul, h10, mm_p10, show nI e + 1 = nI (e + 1) from ms_p1 1]
        refine ih (e + 1) _ (by omega) (mr_i (mr_l hf (by decide)) (by decide)) (TP_i (TP_l hT) (by decide)) ?_ ?_ md_i_at (by omega) hall2 ?_
        · rw [md_i_ne (by decide), md_i_ul]; exact h11
        · rw [md_i_ne (by decide), md_i_ul]; exact h9
        · rw [md_l_ui, md_l_at]
          unfold wthL
          rw [hbs, List.length_append, List.length_singleton, if_neg (by omega)]
      · refine ms_oL_i mm_f12 (ms_oR_i mm_f7 (ms_oI_i mm_f10 ?_))
        rw [h10, mm_r7]
        refine ⟨ms_in (by omega) (by decide), ?_⟩
        rw [ms_nc (by omega), (hT.2.2 e (by omega)).1, mm_p12]
        refine ms_oI_i mm_f10 ?_
        rw [md_i_ul, h10, mm_p10, show nI e + 1 = nI (e + 1) from ms_p1 1]
        refine ih (e + 1) _ (by omega) (mr_i (mr_l hf (by decide)) (by decide)) (TP_i (TP_l hT) (by decide)) ?_ ?_ md_i_at (by omega) hall2 ?_
        · rw [md_i_ne (by decide), md_i_ul]; exact h11
        · rw [md_i_ne (by decide), md_i_ul]; exact h9
        · rw [md_l_ui, md_l_at]
          unfold wthL at hl ⊢
          rw [if_pos (by omega)] at hl
          rw [hbs, List.length_append, List.length_singleton, if_pos (by omega), List.reverse_append]
          show isL _ (hr (b e :: (byts b p e).reverse))
          show isL _ (hr (byts b p e).reverse * 32 + (b e - 96))
          have hlt2 := hr_lt (byts b p e).reverse (fun c hc => byts_all hall c (List.mem_reverse.mp hc))
          rw [List.length_reverse, hlen] at hlt2
          have h45 : 32 ^ (e - p) ≤ 32 ^ 9 := Nat.pow_le_pow_right (by decide) (by omega)
          have h45' : hr (byts b p e).reverse < 35184372088832 := Nat.lt_of_lt_of_le hlt2 (Nat.le_trans h45 (by decide))
          generalize hr (byts b p e).reverse = H at hl h45' ⊢
          rw [show H * 32 + (b e - 96) = H * 32 + b e - 96 by omega]
          exact isL_s (isL_a (isL_m hl (show isL (32 : Int64) 32 by unfold isL; decide) (by omega)) (isL_dL (n := b e) (by omega)) (by omega)) (show isL (96 : Int64) 96 by unfold isL; decide) (by omega) (by omega)
theorem byts_0 : byts b p p = [] := by
  unfold byts
  rw [Nat.sub_self]
  rfl
/-- behind the spaces -/
theorem n_next46 (hp : p ≤ n) (hT : TP N b n) (hf : md_fr g12 M N) (h9 : md_i N 9 = nI p) (hsk : skp b n s = p) : ms_V cd_X9_next none 0 (ms_Cl (d + 1)) (gN g12 h M t (TK b n s)) 46 [(0, .ref h.length)] [] (ms_m h N t) := by
  have hn := hT.1
  refine b_X9_next_46 (ms_oI_i mm_f9 ?_)
  rw [h9, mm_p10, mm_p12]
  refine ms_oI_i mm_f9 (ms_oI_i mm_f8 ?_)
  have e9 : md_i (md_ul (md_ui N 10 (nI p)) 12 0) 9 = nI p := by rw [md_i_ul, md_i_ne (by decide), h9]
  have e8 : md_i (md_ul (md_ui N 10 (nI p)) 12 0) 8 = nI n := by rw [md_i_ul, md_i_ne (by decide), hT.2.1]
  have e10 : md_i (md_ul (md_ui N 10 (nI p)) 12 0) 10 = nI p := by rw [md_i_ul, md_i_at]
  have e12 : md_l (md_ul (md_ui N 10 (nI p)) 12 0) 12 = 0 := md_l_at
  have hT1 : TP (md_ul (md_ui N 10 (nI p)) 12 0) b n := TP_l (TP_i hT (by decide))
  have f1 : md_fr g12 M (md_ul (md_ui N 10 (nI p)) 12 0) := mr_l (mr_i hf (by decide)) (by decide)
  generalize md_ul (md_ui N 10 (nI p)) 12 0 = N1 at e9 e8 e10 e12 hT1 f1 ⊢
  rw [e9, e8]
  -- what is left when the sort is none of words and digits
  have fin : ∀ N2, md_fr g12 M N2 → md_i N2 11 ≠ 1 → md_i N2 11 ≠ 2 → TK b n s N2 → ms_V cd_X9_next none 0 (ms_Cl (d + 1)) (gN g12 h M t (TK b n s)) 149 [(0, .ref h.length)] [] (ms_m h N2 t) := by
    intro N2 hf2 h1 h2 hk
    exact b_X9_next_149 (ms_oI_i mm_f11 (ms_no h1 (b_X9_next_243 (ms_oI_i mm_f11 (ms_no h2 ⟨N2, hf2, rfl, rfl, hk⟩)))))
  refine ms_ite2 (fun z => ?_) (fun z => ?_) <;> rw [ms_nI_eq (by omega) (by omega)] at z
  · rw [mm_p11]
    refine ms_oI_i mm_f11 ?_
    rw [md_i_at]
    refine ms_no (by decide) (fin _ (mr_i f1 (by decide)) (by rw [md_i_at]; decide) (by rw [md_i_at]; decide) ?_)
    unfold TK
    rw [hsk]
    exact ⟨by rw [md_i_ne (by decide)]; exact e9, Or.inl ⟨by omega, md_i_at, by rw [md_i_ne (by decide)]; exact e10⟩⟩
  have hpn : p < n := by omega
  have hb := (hT.2.2 p hpn).2
  have hrd : md_a N1 7 p = nI (b p) := (hT1.2.2 p hpn).1
  refine ms_oR_i mm_f7 (ms_oI_i mm_f9 ?_)
  rw [e9, mm_r7]
  refine ⟨ms_in (by omega) (by decide), ?_⟩
  rw [ms_nc (by omega), hrd]
  refine ms_c1_i (n_small hb) (ms_ifT (fun hg => ?_) (fun hg => ?_))
  · refine ms_oR_i mm_f7 (ms_oI_i mm_f9 ?_)
    rw [e9, mm_r7]
    refine ⟨ms_in (by omega) (by decide), ?_⟩
    rw [ms_nc (by omega), hrd]
    refine ms_c1_i (n_digit hb) (ms_ifT (fun hd => ?_) (fun hd => ?_))
    · rw [mm_p11]
      refine ms_oI_i mm_f11 ?_
      rw [md_i_at]
      refine ms_yes rfl (ms_oR_i mm_f7 (ms_oI_i mm_f9 ?_))
      rw [md_i_ne (by decide), e9, mm_r7]
      refine ⟨ms_in (by omega) (by decide), ?_⟩
      rw [ms_nc (by omega), md_a_ui, hrd, mm_p12]
      refine ms_oI_i mm_f10 ?_
      rw [md_i_ul, md_i_ne (by decide), e10, mm_p10, show nI p + 1 = nI (p + 1) from ms_p1 1]
      have e11 : md_i (md_ui (md_ul (md_ui N1 11 3) 12 (Int32.toInt64 (nI (b p)))) 10 (nI (p + 1))) 11 = 3 := by rw [md_i_ne (by decide), md_i_ul, md_i_at]
      refine fin _ (mr_i (mr_l (mr_i f1 (by decide)) (by decide)) (by decide)) (by rw [e11]; decide) (by rw [e11]; decide) ?_
      unfold TK
      rw [hsk]
      refine ⟨by rw [md_i_ne (by decide), md_i_ul, md_i_ne (by decide)]; exact e9, Or.inr (Or.inr (Or.inr ⟨hpn, hg, hd, e11, md_i_at, ?_⟩))⟩
      rw [md_l_ui, md_l_at]
      exact isL_dL (by omega)
    · rw [mm_p11]
      refine ms_oI_i mm_f11 ?_
      rw [md_i_at]
      refine ms_no (by decide) (b_X9_next_149 (ms_oI_i mm_f11 ?_))
      rw [md_i_at]
      refine ms_no (by decide) ?_
      have := n_next243 (M := M) (h := h) (t := t) (d := d) (b := b) (n := n) (p := p) (n - p) p (md_ui N1 11 2) (by omega) (mr_i f1 (by decide)) (TP_i hT1 (by decide)) md_i_at (by rw [md_i_ne (by decide)]; exact e9) (by rw [md_i_ne (by decide)]; exact e10) (Nat.le_refl _) (fun i h1 h2 => by omega) (by rw [md_l_ui, e12, Nat.sub_self]; show isL 0 0; unfold isL; decide)
      refine ms_V_mono this (fun r g hx => ?_)
      obtain ⟨L, hfL, e1, e2, q9, q11, q10, q12⟩ := hx
      refine ⟨L, hfL, e1, e2, ?_⟩
      unfold TK
      rw [hsk, ← run_yes hpn hd]
      exact ⟨q9, Or.inr (Or.inr (Or.inl ⟨hpn, hg, hd, q11, q10, q12⟩))⟩
  · rw [mm_p11]
    refine ms_oI_i mm_f11 ?_
    rw [md_i_at]
    refine ms_no (by decide) ?_
    have := n_next149 (M := M) (h := h) (t := t) (d := d) (b := b) (n := n) (p := p) (n - p) p (md_ui N1 11 1) (by omega) (mr_i f1 (by decide)) (TP_i hT1 (by decide)) md_i_at (by rw [md_i_ne (by decide)]; exact e9) (by rw [md_i_ne (by decide)]; exact e10) (Nat.le_refl _) (fun i h1 h2 => by omega) (by rw [md_l_ui, e12, byts_0]; show isL 0 0; unfold isL; decide)
    refine ms_V_mono this (fun r g hx => ?_)
    obtain ⟨L, hfL, e1, e2, q9, q11, q10, q12⟩ := hx
    refine ⟨L, hfL, e1, e2, ?_⟩
    unfold TK
    rw [hsk, ← run_yes hpn hg]
    exact ⟨q9, Or.inr (Or.inl ⟨hpn, hg, q11, q10, q12⟩)⟩
theorem n_next (hT : TP M b n) (hs : md_i M 10 = nI s) (hsn : s ≤ n) : ms_H' (d + 2) 176 [.ref h.length] (ms_m h M t) (gN g12 h M t (TK b n s)) := by
  have hn := hT.1
  refine mx_m (fun a b c => m_X9_next a b ⟨_, ms_m_0⟩ c) gN_l (b_X9_next_0 (ms_oI_i mm_f10 ?_))
  rw [hs, mm_p9]
  suffices H : ∀ r e N, e + r = n → md_fr g12 M N → TP N b n → md_i N 9 = nI e → skp b n s = skp b n e → ms_V cd_X9_next none 0 (ms_Cl (d + 1)) (gN g12 h M t (TK b n s)) 8 [(0, .ref h.length)] [] (ms_m h N t) from H (n - s) s _ (by omega) (mr_i mr_0 (by decide)) (TP_i hT (by decide)) md_i_at rfl
  intro r
  induction r with
  | zero =>
    intro e N he hf hT h9 hsk
    refine b_X9_next_8 (ms_oI_i mm_f9 (ms_oI_i mm_f8 ?_))
    rw [h9, hT.2.1]
    refine ms_yes ((ms_nle (by omega) (by omega)).mpr (by omega)) (n_next46 (by omega) hT hf h9 ?_)
    rw [hsk]
    exact run_no (fun z => by omega)
  | succ r ih =>
    intro e N he hf hT h9 hsk
    have hb := (hT.2.2 e (by omega)).2
    refine b_X9_next_8 (ms_oI_i mm_f9 (ms_oI_i mm_f8 ?_))
    rw [h9, hT.2.1]
    refine ms_no (fun z => by rw [ms_nle (by omega) (by omega)] at z; omega) (ms_oR_i mm_f7 (ms_oI_i mm_f9 ?_))
    rw [h9, mm_r7]
    refine ⟨ms_in (by omega) (by decide), ?_⟩
    rw [ms_nc (by omega), (hT.2.2 e (by omega)).1, show (32 : Int32) = nI 32 from rfl]
    refine ms_ite2 (fun z => ?_) (fun z => ?_) <;> rw [ms_nI_eq (by omega) (by omega)] at z
    · refine ms_oI_i mm_f9 ?_
      rw [h9, mm_p9, show nI e + 1 = nI (e + 1) from ms_p1 1]
      refine ih (e + 1) _ (by omega) (mr_i hf (by decide)) (TP_i hT (by decide)) md_i_at ?_
      rw [hsk]
      exact run_yes (by omega) (decide_eq_true z)
    · refine n_next46 (by omega) hT hf h9 ?_
      rw [hsk]
      exact run_no (fun w => z (of_decide_eq_true w.2))
end Ny
