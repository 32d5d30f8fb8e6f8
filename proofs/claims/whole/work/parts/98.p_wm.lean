/-! THE MODEL'S world: draw, having, makeEntry; written by wip/whole/mdl.py from p_wm.txt -/
def dL (n : Nat) : Int64 := Int32.toInt64 (nI n)
def isL (x : Int64) (n : Nat) : Prop := x.toInt = (n : Int)
def gB (k : Nat) : Bool := gA k || decide (k = 3 ∨ k = 50 ∨ k = 51)
def mfr (M N : md_T) : Prop := md_fr gB M N ∧ ∀ m, 946 ≤ m → md_a N 3 m = md_a M 3 m
def GM (G : gT) (N : md_T) : Prop := MX G.1 N ∧ md_l N 50 = dL G.2.2 ∧ ∀ i, i < ab_e G.1 → md_a N 51 i = or_I (G.2.1 i)
def gNW (h : ms_S) (M : md_T) (t : ms_S) (P : md_T → Prop) (r : Option Value) (g' : ms_S) : Prop := ∃ N, mfr M N ∧ g' = ms_m h N t ∧ r = none ∧ P N
section Wm
variable {d i j k n p o e f u v x y s r c m w : Nat} {h t : ms_S} {M N L : md_T} {A A0 : ab_T} {mf : Nat → Option Nat} {G : gT} {og : Option Nat} {a b : Int64}
theorem isL_a (h1 : isL a n) (h2 : isL b m) (hr : n + m < 2 ^ 62) : isL (a + b) (n + m) := by
  unfold isL at *
  rw [Int64.toInt_add, h1, h2]
  apply (Int.bmod_eq_of_le _ _).trans <;> omega
theorem isL_m (h1 : isL a n) (h2 : isL b m) (hr : n * m < 2 ^ 62) : isL (a * b) (n * m) := by
  unfold isL at *
  rw [Int64.toInt_mul, h1, h2, show (n : Int) * (m : Int) = ((n * m : Nat) : Int) from (Int.natCast_mul n m).symm]
  apply Int.bmod_eq_of_le <;> omega
theorem isL_d (h1 : isL a n) (h2 : isL b m) (hr : n < 2 ^ 62) : isL (a / b) (n / m) := by
  unfold isL at *
  have := Nat.div_le_self n m
  rw [Int64.toInt_div, h1, h2, show Int.tdiv (n : Int) (m : Int) = ((n / m : Nat) : Int) from rfl]
  generalize n / m = q at this ⊢
  apply Int.bmod_eq_of_le <;> omega
theorem isL_s (h1 : isL a n) (h2 : isL b m) (hr : n < 2 ^ 62) (hm : m ≤ n) : isL (a - b) (n - m) := by
  unfold isL at *
  rw [Int64.toInt_sub, h1, h2, show (n : Int) - (m : Int) = ((n - m : Nat) : Int) by omega]
  apply Int.bmod_eq_of_le <;> omega
theorem isL_r (h1 : isL a n) (h2 : isL b m) (hr : n < 2 ^ 62) : isL (a - a / b * b) (n % m) := by
  have hd := Nat.div_mul_le_self n m
  have h3 := isL_s h1 (isL_m (isL_d h1 h2 hr) h2 (by omega)) hr hd
  have h4 := Nat.div_add_mod n m
  rw [Nat.mul_comm] at h4
  rw [show n % m = n - n / m * m by omega]
  exact h3
theorem isL_dL (hn : n < 2 ^ 31) : isL (dL n) n := by
  unfold isL dL
  rw [Int32.toInt_toInt64, nI_toInt hn]
theorem isL_eq (h1 : isL a n) (hn : n < 2 ^ 31) : a = dL n := by
  apply Int64.toInt_inj.mp
  rw [h1]
  exact (isL_dL hn).symm
theorem isL_I (h1 : isL a n) (hn : n < 2 ^ 31) : Int64.toInt32 a = nI n := by
  apply Int32.toInt_inj.mp
  rw [Int64.toInt_toInt32, h1, nI_toInt hn]
  apply Int.bmod_eq_of_le <;> omega
theorem n_draw (h50 : md_l M 50 = dL s) (hs : s < 1000003) (h0 : 0 < n) (hn : n < 2 ^ 31) : ms_Cl (d + 1) 249 [.ref h.length, .int (nI n)] (ms_m h M t) (some (.int (nI (dr s % n)))) (ms_m h (md_ul M 50 (dL (dr s))) t) := by
  refine m_X9_draw ms_m_l ms_m_t ⟨_, ms_m_0⟩ (b_X9_draw_0 (Q := ms_lf _ _) (ms_oL_i mm_f50 ⟨by decide, ?_⟩))
  have hl := isL_dL (n := s) (by omega)
  rw [← h50] at hl
  have h1 : isL (md_l M 50 * 1103) (s * 1103) := isL_m hl (show isL (1103 : Int64) 1103 by unfold isL; decide) (by omega)
  have h2 : isL (md_l M 50 * 1103 + 12345) (s * 1103 + 12345) := isL_a h1 (show isL (12345 : Int64) 12345 by unfold isL; decide) (by omega)
  have h3 : isL ((md_l M 50 * 1103 + 12345) - (md_l M 50 * 1103 + 12345) / 1000003 * 1000003) (dr s) := isL_r h2 (show isL (1000003 : Int64) 1000003 by unfold isL; decide) (by omega)
  have hd := dr_lt (s := s)
  have hd2 := Nat.mod_lt (dr s) h0
  rw [isL_eq h3 (by omega), mm_p50]
  refine ms_oL_i mm_f50 ⟨fun z => ?_, ?_⟩
  · have h4 := isL_dL (n := n) hn
    unfold isL dL at h4
    rw [z] at h4
    have : (0 : Int64).toInt = 0 := by decide
    omega
  · have e := isL_I (isL_r (isL_dL (n := dr s) (by omega)) (isL_dL hn) (by omega)) (by omega)
    rw [show dL n = Int32.toInt64 (nI n) from rfl] at e
    rw [md_l_at, e]
    exact ⟨rfl, rfl⟩
theorem n_count (w : MX A M) (hy : y < 2 ^ 31) : ms_Cl (d + 3) 250 [.ref h.length, .int (nI y), .int (-1)] (ms_m h M t) (some (.int (nI (thl A y (ab_e A)).length))) (ms_m h M t) := by
  have hw := w.1.1.2.2.1
  refine m_X9_having (Nat.le_refl _) (Nat.le_refl _) ⟨_, ms_m_0⟩ (b_X9_having_0 (Q := ms_lf _ _) ?_)
  suffices H : ∀ r e, e + r = ab_e A → ms_V cd_X9_having none 1 (ms_Cl (d + 2)) (ms_lf (some (.int (nI (thl A y (ab_e A)).length))) (ms_m h M t)) 8 [(0, .ref h.length), (1, .int (nI y)), (2, .int (-1)), (3, .int (nI (thl A y e).length)), (4, .int (-1)), (5, .int (nI e))] [] (ms_m h M t) from H (ab_e A) 0 (by omega)
  intro r
  induction r with
  | zero =>
    intro e he
    refine b_X9_having_8 (ms_oR_i mm_f3 (n_ec w (ms_yes ((ms_nle (by omega) (by omega)).mpr (by omega)) (ms_yes rfl ?_))))
    rw [show ab_e A = e by omega]
    exact ⟨rfl, rfl⟩
  | succ r ih =>
    intro e he
    have H := ih (e + 1) (by omega)
    have hen := w.1.2.2.2.1 e 1
    have hle := thl_le (A := A) (y := y) (n := e)
    refine b_X9_having_8 (ms_oR_i mm_f3 (n_ec w (ms_no (fun z => by rw [ms_nle (by omega) (by omega)] at z; omega) (ms_c1_i (n_thingOf w (by omega)) ?_))))
    rw [thl_s] at H
    rw [show nI e + 1 = nI (e + 1) from ms_p1 1, show nI (thl A y e).length + 1 = nI ((thl A y e).length + 1) from ms_p1 1]
    refine ms_ite2 (fun z => ?_) (fun z => ?_) <;> rw [ms_nI_eq (by omega) (by omega)] at z
    · rw [if_pos (decide_eq_true z), List.length_append, List.length_singleton] at H
      exact ms_no (nI_m1 (x := (thl A y e).length) (by omega)) H
    · rw [decide_eq_false z, if_neg (by decide), List.append_nil] at H
      exact H
theorem n_pick (w : MX A M) (hy : y < 2 ^ 31) (hi : i < 2 ^ 31) : ms_Cl (d + 3) 250 [.ref h.length, .int (nI y), .int (nI i)] (ms_m h M t) (some (.int (or_I (thl A y (ab_e A))[i]?))) (ms_m h M t) := by
  have hw := w.1.1.2.2.1
  have hne : nI i ≠ -1 := fun z => by
    have := ms_nI_0 (n := i) hi
    rw [z] at this
    exact absurd this (by decide)
  refine m_X9_having (Nat.le_refl _) (Nat.le_refl _) ⟨_, ms_m_0⟩ (b_X9_having_0 (Q := ms_lf _ _) ?_)
  suffices H : ∀ r e, e + r = ab_e A → ms_V cd_X9_having none 1 (ms_Cl (d + 2)) (ms_lf (some (.int (or_I (thl A y (ab_e A))[i]?))) (ms_m h M t)) 8 [(0, .ref h.length), (1, .int (nI y)), (2, .int (nI i)), (3, .int (nI (thl A y e).length)), (4, .int (or_I (thl A y e)[i]?)), (5, .int (nI e))] [] (ms_m h M t) from H (ab_e A) 0 (by omega)
  intro r
  induction r with
  | zero =>
    intro e he
    refine b_X9_having_8 (ms_oR_i mm_f3 (n_ec w (ms_yes ((ms_nle (by omega) (by omega)).mpr (by omega)) (ms_no hne ?_))))
    rw [show ab_e A = e by omega]
    exact ⟨rfl, rfl⟩
  | succ r ih =>
    intro e he
    have H := ih (e + 1) (by omega)
    have hen := w.1.2.2.2.1 e 1
    have hle := thl_le (A := A) (y := y) (n := e)
    refine b_X9_having_8 (ms_oR_i mm_f3 (n_ec w (ms_no (fun z => by rw [ms_nle (by omega) (by omega)] at z; omega) (ms_c1_i (n_thingOf w (by omega)) ?_))))
    rw [thl_s] at H
    rw [show nI e + 1 = nI (e + 1) from ms_p1 1, show nI (thl A y e).length + 1 = nI ((thl A y e).length + 1) from ms_p1 1]
    refine ms_ite2 (fun z => ?_) (fun z => ?_) <;> rw [ms_nI_eq (by omega) (by omega)] at z
    · rw [if_pos (decide_eq_true z), List.length_append, List.length_singleton] at H
      refine ms_ite2 (fun z2 => ?_) (fun z2 => ?_) <;> rw [ms_nI_eq (by omega) (by omega)] at z2
      · rw [show (thl A y e ++ [e])[i]? = some e by rw [← z2, List.getElem?_append_right (Nat.le_refl _), Nat.sub_self]; rfl] at H
        exact H
      · rw [show (thl A y e ++ [e])[i]? = (thl A y e)[i]? by
          by_cases hil : i < (thl A y e).length
          · rw [List.getElem?_append_left hil]
          · rw [List.getElem?_eq_none (by rw [List.length_append, List.length_singleton]; omega), List.getElem?_eq_none (by omega)]] at H
        exact H
    · rw [decide_eq_false z, if_neg (by decide), List.append_nil] at H
      exact H
end Wm
