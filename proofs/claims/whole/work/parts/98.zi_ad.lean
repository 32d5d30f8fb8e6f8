/-! THE CLASS'S Reader: advance; written by wip/whole/mdl.py from zi_ad.txt -/
/-- the tape holds so many bytes -/
def TC (X : cx_T) (b : Nat → Nat) (n : Nat) : Prop := n ≤ 400 ∧ cx_i X 1 1 = nI n ∧ ∀ k, k < n → cx_a X 2 k = nI (b k) ∧ b k < 256
/-- what is owed of Reader.wordAt -/
def HW : Prop := ∀ (X : cx_T) (t : ms_S) (b : Nat → Nat) (n s e d : Nat), TC X b n → s ≤ e → e ≤ n → ms_Cl (d + 5) 90 [.ref 3, .int (nI s), .int (nI e)] (ms_x X t) (some (.int (nI (wd (byts b s e))))) (ms_x X t)
/-- the token at hand -/
def TQ (b : Nat → Nat) (n s : Nat) (X : cx_T) : Prop := cx_i X 3 6 = nI (tkp b n s) ∧ cx_i X 3 7 = nI (tkx b n s) ∧ cx_i X 3 8 = nI (tkc b n s) ∧ (tkc b n s = 300 → cx_i X 3 9 = nI (tkn b n s))
def f3 (c : Nat) : Bool := decide (c = 3)
def kp3 (X Y : cx_T) : Prop := cx_fr f3 X Y ∧ ∀ k, k < 6 → cx_i Y 3 k = cx_i X 3 k
section Ad
variable {b : Nat → Nat} {n s e f k c d p : Nat} {X Y : cx_T} {t g : ms_S}
theorem kp3_0 : kp3 X X := ⟨fr_0, fun _ _ => rfl⟩
theorem kp3_i {q : Nat} {v : Int32} (h : kp3 X Y) (hq : 6 ≤ q) : kp3 X (cx_ui Y 3 q v) := ⟨fr_i h.1 rfl, fun k hk => by rw [cx_i_ui (by omega)]; exact h.2 k hk⟩
theorem TC_i {q : Nat} {v : Int32} (h : TC X b n) : TC (cx_ui X 3 q v) b n := ⟨h.1, by rw [cx_i_ui (by omega)]; exact h.2.1, h.2.2⟩
theorem k_byteAt (h : TC X b n) (hk : k < n) : ms_Cl (d + 1) 93 [.ref 1, .int (nI k)] (ms_x X t) (some (.int (nI (b k)))) (ms_x X t) := by
  have hn := h.1
  refine m_X6_byteAt (Nat.le_refl _) (Nat.le_refl _) ⟨_, xo_1⟩ (b_X6_byteAt_0 (Q := ms_lf _ _) (ms_no (Int32.not_lt.mpr (ms_nI_0 (by omega))) (ms_oI_i xf_1_1 ?_)))
  rw [h.2.1]
  refine ms_no (fun z => by rw [ms_nle (by omega) (by omega)] at z; omega) (ms_no (fun z => by rw [show (400 : Int32) = nI 400 from rfl, ms_nle (by omega) (by omega)] at z; omega) ?_)
  simp only [xf_1_0, ms_oR_e, xr_2]
  refine ⟨ms_in (by omega) (by decide), ?_⟩
  rw [ms_nc (by omega), (h.2.2 k hk).1]
  exact ⟨rfl, rfl⟩
theorem k_letter (hc : c < 256) : ms_Cl (d + 1) 87 [.int (nI c)] g (some (.int (ms_bi (ltr c)))) g := by
  refine m_X5_isLetter (Nat.le_refl _) (Nat.le_refl _) (b_X5_isLetter_0 (Q := ms_lf _ _) ?_)
  rw [show (97 : Int32) = nI 97 from rfl, show (122 : Int32) = nI 122 from rfl]
  refine ms_ite2 (fun z => ?_) (fun z => ?_) <;> rw [ms_nlt (by omega) (by omega)] at z
  · rw [show ltr c = false from decide_eq_false (by omega)]
    exact ⟨(by first | exact Or.inr rfl | exact Or.inl rfl | exact Or.inl trivial | exact Or.inr trivial | trivial), rfl, rfl⟩
  refine ms_ite2 (fun z2 => ?_) (fun z2 => ?_) <;> rw [ms_nlt (by omega) (by omega)] at z2
  · rw [show ltr c = false from decide_eq_false (by omega)]
    exact ⟨(by first | exact Or.inr rfl | exact Or.inl rfl | exact Or.inl trivial | exact Or.inr trivial | trivial), rfl, rfl⟩
  · rw [show ltr c = true from decide_eq_true (by omega)]
    exact ⟨(by first | exact Or.inr rfl | exact Or.inl rfl | exact Or.inl trivial | exact Or.inr trivial | trivial), rfl, rfl⟩
theorem k_digit (hc : c < 256) : ms_Cl (d + 1) 88 [.int (nI c)] g (some (.int (ms_bi (dgt c)))) g := by
  refine m_X5_isDigit (Nat.le_refl _) (Nat.le_refl _) (b_X5_isDigit_0 (Q := ms_lf _ _) ?_)
  rw [show (48 : Int32) = nI 48 from rfl, show (57 : Int32) = nI 57 from rfl]
  refine ms_ite2 (fun z => ?_) (fun z => ?_) <;> rw [ms_nlt (by omega) (by omega)] at z
  · rw [show dgt c = false from decide_eq_false (by omega)]
    exact ⟨(by first | exact Or.inr rfl | exact Or.inl rfl | exact Or.inl trivial | exact Or.inr trivial | trivial), rfl, rfl⟩
  refine ms_ite2 (fun z2 => ?_) (fun z2 => ?_) <;> rw [ms_nlt (by omega) (by omega)] at z2
  · rw [show dgt c = false from decide_eq_false (by omega)]
    exact ⟨(by first | exact Or.inr rfl | exact Or.inl rfl | exact Or.inl trivial | exact Or.inr trivial | trivial), rfl, rfl⟩
  · rw [show dgt c = true from decide_eq_true (by omega)]
    exact ⟨(by first | exact Or.inr rfl | exact Or.inl rfl | exact Or.inl trivial | exact Or.inr trivial | trivial), rfl, rfl⟩
theorem nmb_le : ∀ f, nmb b s f ≤ 100001
  | 0 => Nat.zero_le _
  | f + 1 => Nat.min_le_right _ _
theorem k_numberAt (h : TC X b n) (hse : s ≤ e) (he : e ≤ n) (hd : ∀ i, s ≤ i → i < e → dgt (b i) = true) : ms_Cl (d + 2) 89 [.ref 3, .int (nI s), .int (nI e)] (ms_x X t) (some (.int (nI (nmb b s (e - s))))) (ms_x X t) := by
  have hn := h.1
  refine m_X5_numberAt (Nat.le_refl _) (Nat.le_refl _) ⟨_, xo_3⟩ (b_X5_numberAt_0 (Q := ms_lf _ _) ?_)
  suffices H : ∀ r i, i + r = e → s ≤ i → ms_V cd_X5_numberAt none 1 (ms_Cl (d + 1)) (ms_lf (some (.int (nI (nmb b s (e - s))))) (ms_x X t)) 5 [(0, .ref 3), (2, .int (nI e)), (3, .int (nI (nmb b s (i - s)))), (4, .int (nI i))] [] (ms_x X t) by
    have := H (e - s) s (by omega) (Nat.le_refl _)
    rw [Nat.sub_self] at this
    exact this
  intro r
  induction r with
  | zero =>
    intro i hi hsi
    refine b_X5_numberAt_5 (ms_yes ((ms_nle (by omega) (by omega)).mpr (by omega)) ?_)
    rw [show i = e by omega]
    exact ⟨rfl, rfl⟩
  | succ r ih =>
    intro i hi hsi
    have H := ih (i + 1) (by omega) (by omega)
    have hdi := of_decide_eq_true (hd i hsi (by omega))
    have hle := nmb_le (b := b) (s := s) (i - s)
    rw [show i + 1 - s = (i - s) + 1 by omega, show nmb b s ((i - s) + 1) = min (nmb b s (i - s) * 10 + (b (s + (i - s)) - 48)) 100001 from rfl, show s + (i - s) = i by omega] at H
    refine b_X5_numberAt_5 (ms_no (fun z => by rw [ms_nle (by omega) (by omega)] at z; omega) ?_)
    simp only [xf_3_0, ms_oR_e]
    refine ms_c1_i (k_byteAt h (by omega)) ?_
    rw [show nI (nmb b s (i - s)) * 10 = nI (nmb b s (i - s) * 10) from nI_mul _ 10, ms_p1, show (48 : Int32) = nI 48 from rfl, nI_subk (by omega), show nI i + 1 = nI (i + 1) from ms_p1 1, show (100001 : Int32) = nI 100001 from rfl, mn_nI (by omega) (by decide), show nmb b s (i - s) * 10 + b i - 48 = nmb b s (i - s) * 10 + (b i - 48) by omega]
    exact H
end Ad
