/-! THE CLASS'S Reader: advance (2); written by wip/whole/mdl.py from zj_av.txt -/
def fK (X : cx_T) (t : ms_S) (P : cx_T → Prop) (r : Option Value) (g' : ms_S) : Prop := ∃ Y, kp3 X Y ∧ g' = ms_x Y t ∧ r = none ∧ P Y
section Av
variable {b : Nat → Nat} {n s e f k c d p : Nat} {X Y : cx_T} {t g : ms_S}
theorem fK_l {P : cx_T → Prop} : ∀ r g', fK X t P r g' → (ms_x X t).length ≤ g'.length ∧ ms_tot (ms_x X t) ≤ ms_tot g' := by
  rintro r g' ⟨Y, hf, rfl, _⟩
  exact ⟨ms_x_l, ms_x_t⟩
theorem k_adv84 (hW : HW) (hsk : skp b n s = p) (hpn : p < n) (hl : ltr (b p) = true) : ∀ r e Y, e + r = n → p + 1 ≤ e → (∀ i, p ≤ i → i < e → ltr (b i) = true) → run ltr b n n (p + 1) = run ltr b n n e → kp3 X Y → TC Y b n → cx_i Y 3 6 = nI p → ms_V cd_X5_advance none 0 (ms_Cl (d + 5)) (fK X t (TQ b n s)) 84 [(0, .ref 3), (1, .int (nI p)), (3, .int (nI e))] [] (ms_x Y t) := by
  have fin : ∀ e Y, p + 1 ≤ e → e ≤ n → run ltr b n n (p + 1) = e → kp3 X Y → TC Y b n → cx_i Y 3 6 = nI p → ms_c1 (ms_Cl (d + 5) 90 [.ref 3, .int (nI p), .int (nI e)] (ms_x Y t)) fun r4 g3 => ms_wF g3 3 5 8 (.int r4) fun g5 => ms_wF g5 3 5 7 (.int (nI e)) fun g6 => fK X t (TQ b n s) none g6 := by
    intro e Y h1 h2 hr hk hT h6
    refine ms_c1_i (hW Y t b n p e d hT (by omega) h2) ?_
    rw [xp_3_8, xp_3_7]
    have ht := tok_w (b := b) (n := n) (s := s) (by rw [hsk]; exact hpn) (by rw [hsk]; exact hl)
    rw [hsk, hr] at ht
    refine ⟨_, kp3_i (kp3_i hk (by decide)) (by decide), rfl, rfl, ?_, ?_, ?_, ?_⟩
    · unfold tkp
      rw [ht, cx_i_ui (by decide), cx_i_ui (by decide)]
      exact h6
    · unfold tkx
      rw [ht]
      exact cx_i_self
    · unfold tkc
      rw [ht, cx_i_ui (by decide)]
      exact cx_i_self
    · intro hz
      unfold tkc at hz
      rw [ht] at hz
      have := wd_no (l := byts b p e)
      have hz : wd (byts b p e) = 300 := hz
      omega
  intro r
  induction r with
  | zero =>
    intro e Y he hpe hall hrun hk hT h6
    have hn := hT.1
    refine b_X5_advance_84 ?_
    simp only [xf_3_0, ms_oR_e]
    refine ms_oI_i xf_1_1 ?_
    rw [hT.2.1]
    refine ms_yes ((ms_nle (by omega) (by omega)).mpr (by omega)) (fin e Y hpe (by omega) ?_ hk hT h6)
    rw [hrun]
    exact run_no (fun z => by omega)
  | succ r ih =>
    intro e Y he hpe hall hrun hk hT h6
    have hn := hT.1
    have hb := (hT.2.2 e (by omega)).2
    refine b_X5_advance_84 ?_
    simp only [xf_3_0, ms_oR_e]
    refine ms_oI_i xf_1_1 ?_
    rw [hT.2.1]
    refine ms_no (fun z => by rw [ms_nle (by omega) (by omega)] at z; omega) (ms_c1_i (k_byteAt hT (by omega)) (ms_c1_i (k_letter hb) (ms_ifT (fun hg => ?_) (fun hg => ?_))))
    · refine fin e Y hpe (by omega) ?_ hk hT h6
      rw [hrun]
      exact run_no (fun z => by rw [hg] at z; exact absurd z.2 (by decide))
    · rw [show nI e + 1 = nI (e + 1) from ms_p1 1]
      refine ih (e + 1) Y (by omega) (by omega) (fun i h1 h2 => ?_) (hrun.trans (run_yes (by omega) hg)) hk hT h6
      by_cases hi : i = e
      · rw [hi]; exact hg
      · exact hall i h1 (by omega)
theorem k_adv135 (hsk : skp b n s = p) (hpn : p < n) (hl : ltr (b p) = false) (hd : dgt (b p) = true) : ∀ r e Y, e + r = n → p + 1 ≤ e → (∀ i, p ≤ i → i < e → dgt (b i) = true) → run dgt b n n (p + 1) = run dgt b n n e → kp3 X Y → TC Y b n → cx_i Y 3 6 = nI p → ms_V cd_X5_advance none 0 (ms_Cl (d + 5)) (fK X t (TQ b n s)) 135 [(0, .ref 3), (1, .int (nI p)), (3, .int (nI e))] [] (ms_x Y t) := by
  have fin : ∀ e Y, p + 1 ≤ e → e ≤ n → run dgt b n n (p + 1) = e → (∀ i, p ≤ i → i < e → dgt (b i) = true) → kp3 X Y → TC Y b n → cx_i Y 3 6 = nI p → ms_wF (ms_x Y t) 3 5 8 (.int 300) fun g3 => ms_c1 (ms_Cl (d + 5) 89 [.ref 3, .int (nI p), .int (nI e)] g3) fun r5 g4 => ms_wF g4 3 5 9 (.int r5) fun g6 => ms_wF g6 3 5 7 (.int (nI e)) fun g7 => fK X t (TQ b n s) none g7 := by
    intro e Y h1 h2 hr hall hk hT h6
    rw [xp_3_8]
    refine ms_c1_i (k_numberAt (d := d + 3) (TC_i hT) (by omega) h2 hall) ?_
    rw [xp_3_9, xp_3_7]
    have ht := tok_d (b := b) (n := n) (s := s) (by rw [hsk]; exact hpn) (by rw [hsk]; exact hl) (by rw [hsk]; exact hd)
    rw [hsk, hr] at ht
    refine ⟨_, kp3_i (kp3_i (kp3_i hk (by decide)) (by decide)) (by decide), rfl, rfl, ?_, ?_, ?_, ?_⟩
    · unfold tkp
      rw [ht, cx_i_ui (by decide), cx_i_ui (by decide), cx_i_ui (by decide)]
      exact h6
    · unfold tkx
      rw [ht]
      exact cx_i_self
    · unfold tkc
      rw [ht, cx_i_ui (by decide), cx_i_ui (by decide)]
      exact cx_i_self
    · intro _
      unfold tkn
      rw [ht, cx_i_ui (by decide)]
      exact cx_i_self
  intro r
  induction r with
  | zero =>
    intro e Y he hpe hall hrun hk hT h6
    have hn := hT.1
    refine b_X5_advance_135 ?_
    simp only [xf_3_0, ms_oR_e]
    refine ms_oI_i xf_1_1 ?_
    rw [hT.2.1]
    refine ms_yes ((ms_nle (by omega) (by omega)).mpr (by omega)) (fin e Y hpe (by omega) ?_ hall hk hT h6)
    rw [hrun]
    exact run_no (fun z => by omega)
  | succ r ih =>
    intro e Y he hpe hall hrun hk hT h6
    have hn := hT.1
    have hb := (hT.2.2 e (by omega)).2
    refine b_X5_advance_135 ?_
    simp only [xf_3_0, ms_oR_e]
    refine ms_oI_i xf_1_1 ?_
    rw [hT.2.1]
    refine ms_no (fun z => by rw [ms_nle (by omega) (by omega)] at z; omega) (ms_c1_i (k_byteAt hT (by omega)) (ms_c1_i (k_digit hb) (ms_ifT (fun hg => ?_) (fun hg => ?_))))
    · refine fin e Y hpe (by omega) ?_ hall hk hT h6
      rw [hrun]
      exact run_no (fun z => by rw [hg] at z; exact absurd z.2 (by decide))
    · rw [show nI e + 1 = nI (e + 1) from ms_p1 1]
      refine ih (e + 1) Y (by omega) (by omega) (fun i h1 h2 => ?_) (hrun.trans (run_yes (by omega) hg)) hk hT h6
      by_cases hi : i = e
      · rw [hi]; exact hg
      · exact hall i h1 (by omega)
theorem k_advance (hW : HW) (hT : TC X b n) (h7 : cx_i X 3 7 = nI s) (hs : s ≤ n) : ms_H' (d + 6) 86 [.ref 3] (ms_x X t) (fK X t (TQ b n s)) := by
  have hn := hT.1
  refine mx_m (fun a b c => m_X5_advance a b ⟨_, xo_3⟩ c) fK_l (b_X5_advance_0 (ms_oI_i xf_3_7 ?_))
  rw [h7]
  suffices H : ∀ r e, e + r = n → skp b n s = skp b n e → ms_V cd_X5_advance none 0 (ms_Cl (d + 5)) (fK X t (TQ b n s)) 5 [(0, .ref 3), (1, .int (nI e))] [] (ms_x X t) from H (n - s) s (by omega) rfl
  intro r
  induction r with
  | zero =>
    intro e he hsk
    have hp : skp b n s = e := by rw [hsk]; exact run_no (fun z => by omega)
    refine b_X5_advance_5 ?_
    simp only [xf_3_0, ms_oR_e]
    refine ms_oI_i xf_1_1 ?_
    rw [hT.2.1]
    refine ms_yes ((ms_nle (by omega) (by omega)).mpr (by omega)) ?_
    rw [xp_3_6]
    simp only [xf_3_0, ms_oR_e]
    refine ms_oI_i xf_1_1 ?_
    rw [cx_i_ui (by decide), hT.2.1]
    refine ms_no (fun z => by rw [ms_nlt (by omega) (by omega)] at z; omega) ?_
    rw [xp_3_8, xp_3_7]
    have ht := tok_e (b := b) (n := n) (s := s) (by omega)
    rw [hp] at ht
    refine ⟨_, kp3_i (kp3_i (kp3_i kp3_0 (by decide)) (by decide)) (by decide), rfl, rfl, ?_, ?_, ?_, fun hz => ?_⟩
    · unfold tkp
      rw [ht, cx_i_ui (by decide), cx_i_ui (by decide)]
      exact cx_i_self
    · unfold tkx
      rw [ht]
      exact cx_i_self
    · unfold tkc
      rw [ht, cx_i_ui (by decide)]
      exact cx_i_self
    · unfold tkc at hz
      rw [ht] at hz
      have hz : 301 = 300 := hz
      omega
  | succ r ih =>
    intro e he hsk
    have hb := (hT.2.2 e (by omega)).2
    refine b_X5_advance_5 ?_
    simp only [xf_3_0, ms_oR_e]
    refine ms_oI_i xf_1_1 ?_
    rw [hT.2.1]
    refine ms_no (fun z => by rw [ms_nle (by omega) (by omega)] at z; omega) (ms_c1_i (k_byteAt hT (by omega)) ?_)
    rw [show (32 : Int32) = nI 32 from rfl]
    refine ms_ite2 (fun z => ?_) (fun z => ?_) <;> rw [ms_nI_eq (by omega) (by omega)] at z
    · rw [show nI e + 1 = nI (e + 1) from ms_p1 1]
      refine ih (e + 1) (by omega) ?_
      rw [hsk]
      exact run_yes (by omega) (decide_eq_true z)
    have hp : skp b n s = e := by rw [hsk]; exact run_no (fun w => z (of_decide_eq_true w.2))
    rw [xp_3_6]
    simp only [xf_3_0, ms_oR_e]
    refine ms_oI_i xf_1_1 ?_
    have hT6 : TC (cx_ui X 3 6 (nI e)) b n := TC_i hT
    have hk6 : kp3 X (cx_ui X 3 6 (nI e)) := kp3_i kp3_0 (by decide)
    have h66 : cx_i (cx_ui X 3 6 (nI e)) 3 6 = nI e := cx_i_self
    generalize cx_ui X 3 6 (nI e) = Y at hT6 hk6 h66 ⊢
    rw [hT6.2.1]
    refine ms_yes ((ms_nlt (by omega) (by omega)).mpr (by omega)) (ms_c1_i (k_byteAt hT6 (by omega)) (ms_c1_i (k_letter hb) (ms_ifT (fun hg => ?_) (fun hg => ?_))))
    · refine ms_c1_i (k_digit hb) (ms_ifT (fun hd => ?_) (fun hd => ?_))
      · rw [xp_3_8, xp_3_7, show nI e + 1 = nI (e + 1) from ms_p1 1]
        have ht := tok_s (b := b) (n := n) (s := s) (by omega) (by rw [hp]; exact hg) (by rw [hp]; exact hd)
        rw [hp] at ht
        refine ⟨_, kp3_i (kp3_i hk6 (by decide)) (by decide), rfl, rfl, ?_, ?_, ?_, fun hz => ?_⟩
        · unfold tkp
          rw [ht, cx_i_ui (by decide), cx_i_ui (by decide)]
          exact h66
        · unfold tkx
          rw [ht]
          exact cx_i_self
        · unfold tkc
          rw [ht, cx_i_ui (by decide)]
          exact cx_i_self
        · unfold tkc at hz
          rw [ht] at hz
          have hz : b e = 300 := hz
          omega
      · rw [show nI e + 1 = nI (e + 1) from ms_p1 1]
        exact k_adv135 hp (by omega) hg hd (n - (e + 1)) (e + 1) Y (by omega) (Nat.le_refl _) (fun i h1 h2 => by rw [show i = e by omega]; exact hd) rfl hk6 hT6 h66
    · rw [show nI e + 1 = nI (e + 1) from ms_p1 1]
      exact k_adv84 hW hp (by omega) hg (n - (e + 1)) (e + 1) Y (by omega) (Nat.le_refl _) (fun i h1 h2 => by rw [show i = e by omega]; exact hg) rfl hk6 hT6 h66
end Av
