/-! CONTRACTS: the model's digits; written by wip/whole/mdl.py from kind.txt -/
section Kind
variable {d : Nat} {g : ms_S}
theorem c9_digit {m k : Nat} (hm : m < 2 ^ 31) (hk : k < 10) : ms_Cl (d + 1) 206 [.int (nI m), .int (nI k)] g (some (.int (nI (m / 10 ^ k % 10)))) g := by
  refine m_X9_digit (Nat.le_refl _) (Nat.le_refl _) (b_X9_digit_0 (Q := ms_lf _ _) ?_)
  suffices H : ∀ r s, s + r = k → ms_V cd_X9_digit none 1 (ms_Cl d) (ms_lf (some (.int (nI (m / 10 ^ k % 10)))) g) 4 [(1, .int (nI k)), (2, .int (nI (m / 10 ^ s))), (3, .int (nI s))] [] g by
    have H0 := H k 0 (by omega)
    rw [Nat.pow_zero, Nat.div_one] at H0
    exact H0
  intro r
  induction r with
  | zero =>
    intro s hs
    have hl : m / 10 ^ s ≤ m := Nat.div_le_self _ _
    refine b_X9_digit_4 (ms_yes ((ms_nle (by omega) (by omega)).mpr (by omega)) ⟨by decide, ?_⟩)
    rw [show (10 : Int32) = nI 10 from rfl, pk_rem (by omega) (by decide) (by decide), show s = k by omega]
    exact ⟨rfl, rfl⟩
  | succ r ih =>
    intro s hs
    have hl : m / 10 ^ s ≤ m := Nat.div_le_self _ _
    refine b_X9_digit_4 (ms_no (fun z => ?_) ⟨by decide, ?_⟩)
    · have := (ms_nle (by omega) (by omega)).mp z
      omega
    rw [show (10 : Int32) = nI 10 from rfl, pk_div (by omega) (by decide) (by decide), show nI s + 1 = nI (s + 1) from ms_p1 1, Nat.div_div_eq_div_mul, ← Nat.pow_succ]
    exact ih (s + 1) (by omega)
theorem c9_tens {k : Nat} (hk : k < 5) : ms_Cl (d + 1) 207 [.int (nI k)] g (some (.int (nI (10 ^ k)))) g := by
  refine m_X9_tens (Nat.le_refl _) (Nat.le_refl _) (b_X9_tens_0 (Q := ms_lf _ _) ?_)
  match k, hk with
  | 0, _ => exact ms_yes (by decide) ⟨rfl, rfl⟩
  | 1, _ => exact ms_no (by decide) (ms_yes (by decide) ⟨rfl, rfl⟩)
  | 2, _ => exact ms_no (by decide) (ms_no (by decide) (ms_yes (by decide) ⟨rfl, rfl⟩))
  | 3, _ => exact ms_no (by decide) (ms_no (by decide) (ms_no (by decide) (ms_yes (by decide) ⟨rfl, rfl⟩)))
  | 4, _ => exact ms_no (by decide) (ms_no (by decide) (ms_no (by decide) (ms_no (by decide) ⟨rfl, rfl⟩)))
def dg (u k : Nat) : Nat := u / 10 ^ k % 10
def sw_at (u : Nat) (v : Int32) (k : Nat) : Bool := !decide (nI (dg u k) = nI (dg u (k + 1))) && decide (v = ((((nI u - (nI (dg u k) * nI (10 ^ k))) - (nI (dg u (k + 1)) * nI (10 ^ (k + 1)))) + (nI (dg u (k + 1)) * nI (10 ^ k))) + (nI (dg u k) * nI (10 ^ (k + 1)))))
def md_sw (u : Nat) (v : Int32) : Nat → Bool
  | 0 => false
  | k + 1 => md_sw u v k || sw_at u v k
theorem c9_isSwap {u : Nat} {v : Int32} (hu : u < 2 ^ 31) : ms_Cl (d + 2) 209 [.int (nI u), .int v] g (some (.int (ms_bi (md_sw u v 3)))) g := by
  refine m_X9_isSwap (Nat.le_refl _) (Nat.le_refl _) (b_X9_isSwap_0 (Q := ms_lf _ _) ?_)
  suffices H : ∀ r s, s + r = 3 → ms_V cd_X9_isSwap none 4 (ms_Cl (d + 1)) (ms_lf (some (.int (ms_bi (md_sw u v 3)))) g) 4 [(0, .int (nI u)), (1, .int v), (2, .int (ms_bi (md_sw u v s))), (3, .int (nI s))] [] g from H 3 0 (by omega)
  intro r
  induction r with
  | zero =>
    intro s hs
    refine b_X9_isSwap_4 (ms_yes ((ms_nle (a := 3) (by decide) (by omega)).mpr (by omega)) ⟨ms_bi_01 _, ?_⟩)
    rw [show s = 3 by omega]
    exact ⟨rfl, rfl⟩
  | succ r ih =>
    intro s hs
    refine b_X9_isSwap_4 (ms_no (fun z => ?_) ?_)
    · have := (ms_nle (a := 3) (by decide) (by omega)).mp z
      omega
    rw [show nI s + 1 = nI (s + 1) from ms_p1 1]
    refine ms_c1_i (c9_digit hu (by omega)) (ms_c1_i (c9_digit hu (by omega)) ?_)
    have H := ih (s + 1) (by omega)
    rw [show md_sw u v (s + 1) = (md_sw u v s || sw_at u v s) from rfl] at H
    refine ms_ifT (fun h1 => ?_) (fun h1 => ?_)
    · rw [h1, Bool.false_or] at H
      refine ms_ite2 (fun h2 => ?_) (fun h2 => ?_)
      · rw [show sw_at u v s = false by
          unfold sw_at dg
          rw [decide_eq_true h2]
          rfl] at H
        exact H
      · refine ms_c1_i (c9_tens (by omega)) (ms_c1_i (c9_tens (by omega)) (ms_c1_i (c9_tens (by omega)) (ms_c1_i (c9_tens (by omega)) ?_)))
        refine ms_ite2 (fun h3 => ?_) (fun h3 => ?_)
        · rw [show sw_at u v s = true by
            unfold sw_at dg
            rw [decide_eq_false h2, decide_eq_true h3]
            rfl] at H
          exact H
        · rw [show sw_at u v s = false by
            unfold sw_at dg
            rw [decide_eq_false h2, decide_eq_false h3]
            rfl] at H
          exact H
    · rw [h1, Bool.true_or] at H
      exact H
def dr_at (u : Nat) (v : Int32) (k : Nat) : Bool := !decide (nI u < 10) && (!decide (nI u < nI (10 ^ k)) && decide (v = (((nI u / nI (10 ^ (k + 1))) * nI (10 ^ k)) + (nI u - nI u / nI (10 ^ k) * nI (10 ^ k)))))
def md_dr (u : Nat) (v : Int32) : Nat → Bool
  | 0 => false
  | k + 1 => md_dr u v k || dr_at u v k
theorem ten_ne {k : Nat} (hk : k < 5) : ¬ nI (10 ^ k) = 0 := by
  match k, hk with
  | 0, _ => decide
  | 1, _ => decide
  | 2, _ => decide
  | 3, _ => decide
  | 4, _ => decide
theorem c9_isDrop {u : Nat} {v : Int32} (hu : u < 2 ^ 31) : ms_Cl (d + 2) 210 [.int (nI u), .int v] g (some (.int (ms_bi (md_dr u v 4)))) g := by
  refine m_X9_isDrop (Nat.le_refl _) (Nat.le_refl _) (b_X9_isDrop_0 (Q := ms_lf _ _) ?_)
  suffices H : ∀ r s, s + r = 4 → ms_V cd_X9_isDrop none 4 (ms_Cl (d + 1)) (ms_lf (some (.int (ms_bi (md_dr u v 4)))) g) 4 [(0, .int (nI u)), (1, .int v), (2, .int (ms_bi (md_dr u v s))), (3, .int (nI s))] [] g from H 4 0 (by omega)
  intro r
  induction r with
  | zero =>
    intro s hs
    refine b_X9_isDrop_4 (ms_yes ((ms_nle (a := 4) (by decide) (by omega)).mpr (by omega)) ⟨ms_bi_01 _, ?_⟩)
    rw [show s = 4 by omega]
    exact ⟨rfl, rfl⟩
  | succ r ih =>
    intro s hs
    refine b_X9_isDrop_4 (ms_no (fun z => ?_) ?_)
    · have := (ms_nle (a := 4) (by decide) (by omega)).mp z
      omega
    rw [show nI s + 1 = nI (s + 1) from ms_p1 1]
    have H := ih (s + 1) (by omega)
    rw [show md_dr u v (s + 1) = (md_dr u v s || dr_at u v s) from rfl] at H
    refine ms_ifT (fun h1 => ?_) (fun h1 => ?_)
    · rw [h1, Bool.false_or] at H
      unfold dr_at at H
      refine ms_ite2 (fun h2 => ?_) (fun h2 => ?_)
      · rw [decide_eq_true h2] at H
        exact H
      rw [decide_eq_false h2] at H
      refine ms_c1_i (c9_tens (by omega)) ?_
      refine ms_ite2 (fun h3 => ?_) (fun h3 => ?_)
      · rw [decide_eq_true h3] at H
        exact H
      rw [decide_eq_false h3] at H
      refine ms_c1_i (c9_tens (by omega)) ⟨ten_ne (by omega), ms_c1_i (c9_tens (by omega)) (ms_c1_i (c9_tens (by omega)) ⟨ten_ne (by omega), ?_⟩)⟩
      refine ms_ite2 (fun h4 => ?_) (fun h4 => ?_)
      · rw [decide_eq_true h4] at H
        exact H
      · rw [decide_eq_false h4] at H
        exact H
    · rw [h1, Bool.true_or] at H
      exact H
end Kind
