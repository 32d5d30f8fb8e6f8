/-! CONTRACTS: the small functions of SlipTrees -/
section Sl
variable {d : Nat} {g : ms_S} {u v p q w z : Int32}
def sl_in (p q : Int32) : Bool := !decide (p < 0) && !decide (q < p)
theorem c_within : ms_Cl (d + 1) 133 [.int p, .int q] g (some (.int (ms_bi (sl_in p q)))) g := by
  refine m_X8_within (Nat.le_refl _) (Nat.le_refl _) (b_X8_within_0 ?_)
  by_cases h0 : p < 0
  · refine ms_yes h0 ?_; simp [sl_in, h0, decide_true, Bool.not_true, Bool.false_and, ms_bi]
  · refine ms_no h0 ?_
    by_cases h1 : q < p
    · refine ms_yes h1 ?_; simp [sl_in, h0, h1, decide_true, decide_false, Bool.not_true, Bool.and_false, ms_bi]
    · refine ms_no h1 ?_; simp [sl_in, h0, h1, decide_false, Bool.not_false, Bool.and_true, ms_bi]
theorem c_areFields : ms_Cl (d + 2) 134 [.int p, .int q, .int w, .int z] g (some (.int (ms_bi (sl_in p 9999 && (sl_in q 9999 && (sl_in w 9999 && sl_in z 9999)))))) g := by
  refine m_X8_areFields (Nat.le_refl _) (Nat.le_refl _) (b_X8_areFields_0 ⟨_, _, c_within, ?_⟩)
  cases h1 : sl_in p 9999 with
  | false => refine ms_yes (ms_bi_0.mpr rfl) ?_; exact ⟨Or.inl rfl, rfl, rfl⟩
  | true =>
    refine ms_no (fun e => by cases ms_bi_0.mp e) ?_
    refine ⟨_, _, c_within, ?_⟩
    cases h2 : sl_in q 9999 with
    | false => refine ms_yes (ms_bi_0.mpr rfl) ?_; exact ⟨Or.inl rfl, rfl, rfl⟩
    | true =>
      refine ms_no (fun e => by cases ms_bi_0.mp e) ?_
      refine ⟨_, _, c_within, ?_⟩
      cases h3 : sl_in w 9999 with
      | false => refine ms_yes (ms_bi_0.mpr rfl) ?_; exact ⟨Or.inl rfl, rfl, rfl⟩
      | true =>
        refine ms_no (fun e => by cases ms_bi_0.mp e) ?_
        refine ⟨_, _, c_within, ?_⟩
        cases h4 : sl_in z 9999 with
        | false => refine ms_yes (ms_bi_0.mpr rfl) ?_; exact ⟨Or.inl rfl, rfl, rfl⟩
        | true => refine ms_no (fun e => by cases ms_bi_0.mp e) ?_; exact ⟨Or.inr rfl, rfl, rfl⟩
def sl_place (v : Int32) : Nat := if v = -5 then 3 else if v = -4 then 4 else if v = -3 then 2 else if v = -2 then 1 else if v = -1 then 0 else 4
theorem c_placeOf : ms_Cl (d + 1) 132 [.int v] g (some (.int (nI (sl_place v)))) g := by
  refine m_X8_placeOf (Nat.le_refl _) (Nat.le_refl _) (b_X8_placeOf_0 ?_)
  by_cases h1 : v = -5
  · refine ms_yes h1 ?_; subst h1; exact ⟨by decide, rfl⟩
  refine ms_no h1 ?_
  by_cases h2 : v = -4
  · refine ms_yes h2 ?_; subst h2; exact ⟨by decide, rfl⟩
  refine ms_no h2 ?_
  by_cases h3 : v = -3
  · refine ms_yes h3 ?_; subst h3; exact ⟨by decide, rfl⟩
  refine ms_no h3 ?_
  by_cases h4 : v = -2
  · refine ms_yes h4 ?_; subst h4; exact ⟨by decide, rfl⟩
  refine ms_no h4 ?_
  by_cases h5 : v = -1
  · refine ms_yes h5 ?_; subst h5; exact ⟨by decide, rfl⟩
  refine ms_no h5 ?_
  have e : sl_place v = 4 := by unfold sl_place; rw [if_neg h1, if_neg h2, if_neg h3, if_neg h4, if_neg h5]
  rw [e]
  exact ⟨rfl, rfl⟩
end Sl
