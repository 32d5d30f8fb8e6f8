/-! THE CLASS'S LAWS AT WORK: works; written by wip/whole/mdl.py from evd.txt -/
/-- where the top of a stack is -/
def tpI (l : List Int64) : Int32 := match l with
  | [] => -1
  | _ :: l => nI l.length
theorem tpI_1 (l : List Int64) : tpI l + 1 = nI l.length := by
  cases l with
  | nil => rfl
  | cons a l => exact ms_p1 1
theorem tpI_m {a : Int64} {l : List Int64} : tpI (a :: l) + (-1) = tpI l := by
  cases l with
  | nil =>
    show nI 0 + (-1) = -1
    decide
  | cons b l =>
    show nI (l.length + 1) + (-1) = nI l.length
    rw [← Int32.sub_eq_add_neg]
    exact ms_nI_m1
theorem tpI_neg {l : List Int64} (hl : l.length < 2 ^ 31) : (tpI l < 0) ↔ l = [] := by
  cases l with
  | nil => exact ⟨fun _ => rfl, fun _ => by decide⟩
  | cons a l =>
    refine ⟨fun z => ?_, fun z => by cases z⟩
    have := ms_nI_0 (n := l.length) (by rw [List.length_cons] at hl; omega)
    exact absurd z (Int32.not_lt.mpr this)
def w_fol (s : Nat) : Bool := decide (s = 300) || (decide (s = 275) || decide (s = 274))
def w_wrd (s : Nat) : Bool := decide (256 ≤ s) && decide (s < 268)
/-- what is asked ahead of a step -/
def w_may (w : Nat → Nat) (stop k : Nat) (l : List Int64) : Prop := l.length < 52 ∧ (w_fol (w k) = true → k + 1 < stop) ∧ (w_wrd (w k) = true ∨ w k = 300 ∨ l ≠ [])
theorem w_may_no {w : Nat → Nat} {env : Nat → Int32} {stop k : Nat} {l : List Int64} (h : ¬ w_may w stop k l) : w_st w env stop k l = none := by
  unfold w_st
  by_cases h1 : 52 ≤ l.length
  · rw [if_pos h1]
  rw [if_neg h1]
  by_cases h2 : 256 ≤ w k ∧ w k < 268
  · refine absurd ⟨by omega, fun z => ?_, Or.inl ?_⟩ h
    · unfold w_fol at z
      simp only [Bool.or_eq_true, decide_eq_true_eq] at z
      omega
    · unfold w_wrd
      rw [decide_eq_true h2.1, decide_eq_true h2.2]
      rfl
  rw [if_neg h2]
  by_cases h3 : w k = 300
  · rw [if_pos h3]
    by_cases h4 : stop ≤ k + 1
    · rw [if_pos h4]
    · exact absurd ⟨by omega, fun _ => by omega, Or.inr (Or.inl h3)⟩ h
  rw [if_neg h3]
  cases l with
  | nil => rfl
  | cons a l =>
    simp only
    by_cases h5 : w k = 276
    · refine absurd ⟨by omega, fun z => ?_, Or.inr (Or.inr (by simp))⟩ h
      unfold w_fol at z
      simp only [Bool.or_eq_true, decide_eq_true_eq] at z
      omega
    rw [if_neg h5]
    by_cases h6 : w k = 274 ∨ w k = 275
    · rw [if_pos h6]
      by_cases h4 : stop ≤ k + 1
      · rw [if_pos h4]
      · exact absurd ⟨by omega, fun _ => by omega, Or.inr (Or.inr (by simp))⟩ h
    · refine absurd ⟨by omega, fun z => ?_, Or.inr (Or.inr (by simp))⟩ h
      unfold w_fol at z
      simp only [Bool.or_eq_true, decide_eq_true_eq] at z
      omega
section Wst
variable {w : Nat → Nat} {env : Nat → Int32} {stop k : Nat} {l : List Int64} {a b : Int64}
theorem w_st_word (hl : l.length < 52) (h : 256 ≤ w k ∧ w k < 268) : w_st w env stop k l = some (k + 1, (env (w k - 256)).toInt64 :: l) := by
  unfold w_st
  rw [if_neg (by omega), if_pos h]
theorem w_st_num (hl : l.length < 52) (h : w k = 300) (hs : k + 1 < stop) : w_st w env stop k l = some (k + 2, (nI (w (k + 1))).toInt64 :: l) := by
  unfold w_st
  rw [if_neg (by omega), if_neg (by omega), if_pos h, if_neg (by omega)]
theorem w_st_not (hl : l.length + 1 < 52) (h : w k = 276) : w_st w env stop k (a :: l) = some (k + 1, (1 - a) :: l) := by
  unfold w_st
  rw [if_neg (by rw [List.length_cons]; omega), if_neg (by omega), if_neg (by omega)]
  simp only
  rw [if_pos h]
theorem w_st_jmp (hl : l.length + 1 < 52) (h : w k = 274 ∨ w k = 275) (hs : k + 1 < stop) (ha : (w k = 275 ∧ a = 0) ∨ (w k = 274 ∧ a ≠ 0)) : w_st w env stop k (a :: l) = some (max (k + 2) (w (k + 1)), a :: l) := by
  unfold w_st
  rw [if_neg (by rw [List.length_cons]; omega), if_neg (by omega), if_neg (by omega)]
  simp only
  rw [if_neg (by omega), if_pos h, if_neg (by omega)]
  rcases ha with ⟨h1, h2⟩ | ⟨h1, h2⟩
  · rw [decide_eq_true h1, decide_eq_true h2, if_pos rfl]
  · rw [decide_eq_false (show ¬ w k = 275 by omega), decide_eq_false h2, if_pos rfl]
theorem w_st_pop (hl : l.length + 1 < 52) (h : w k = 274 ∨ w k = 275) (hs : k + 1 < stop) (ha : (w k = 275 ∧ a ≠ 0) ∨ (w k = 274 ∧ a = 0)) : w_st w env stop k (a :: l) = some (k + 2, l) := by
  unfold w_st
  rw [if_neg (by rw [List.length_cons]; omega), if_neg (by omega), if_neg (by omega)]
  simp only
  rw [if_neg (by omega), if_pos h, if_neg (by omega)]
  rcases ha with ⟨h1, h2⟩ | ⟨h1, h2⟩
  · rw [decide_eq_true h1, decide_eq_false h2, if_neg (by decide)]
  · rw [decide_eq_false (show ¬ w k = 275 by omega), decide_eq_true h2, if_neg (by decide)]
theorem w_st_op1 (hl : l.length < 52) (h1 : ¬ (256 ≤ w k ∧ w k < 268)) (h2 : w k ≠ 300) (h3 : w k ≠ 276) (h4 : ¬ (w k = 274 ∨ w k = 275)) (h5 : l.length < 2) : w_st w env stop k l = none := by
  unfold w_st
  rw [if_neg (by omega), if_neg h1, if_neg h2]
  cases l with
  | nil => rfl
  | cons a l =>
    simp only
    rw [if_neg h3, if_neg h4]
    cases l with
    | nil => rfl
    | cons b l => rw [List.length_cons, List.length_cons] at h5; omega
theorem w_st_op (hl : l.length + 2 < 52) (h1 : ¬ (256 ≤ w k ∧ w k < 268)) (h2 : w k ≠ 300) (h3 : w k ≠ 276) (h4 : ¬ (w k = 274 ∨ w k = 275)) : w_st w env stop k (a :: b :: l) = (w_jn (w k) b a).map fun m => (k + 1, m :: l) := by
  unfold w_st
  rw [if_neg (by rw [List.length_cons, List.length_cons]; omega), if_neg h1, if_neg h2]
  simp only
  rw [if_neg h3, if_neg h4]
end Wst
section Evd
variable {d : Nat} {X : cx_T} {t : ms_S} {g0 : Int64} {q : Nat → Int64} {w : Nat → Nat} {stop k ca n : Nat} {l : List Int64} {Q : Option Value → ms_S → Prop} {f : Nat → Int32}
/-- an array of ints in the tail -/
def tl_a (t : ms_S) (a n : Nat) (f : Nat → Int32) : Prop := 65 ≤ a ∧ t[a - 65]? = some (.inl (0, n, .inl f))
theorem tl_g {a : Nat} (h : tl_a t a n f) {X : cx_T} : (ms_x X t)[a]? = some (.inl (0, n, .inl f)) := by
  unfold ms_x
  rw [List.getElem?_append_right (show (cx_c X).length ≤ a from h.1)]
  exact h.2
theorem tl_r {a : Nat} (h : tl_a t a n f) {X : cx_T} {i : Int32} {K : Int32 → Prop} : ms_rI (ms_x X t) a 0 i K = (vp_in i n ∧ K (f i.toNatClampNeg)) := by
  have e : ms_arr (ms_x X t) a = some (0, n, .inl f) := by unfold ms_arr; rw [tl_g h]
  unfold ms_rI; rw [e]; rfl
theorem tl_l {a : Nat} (h : tl_a t a n f) {X : cx_T} {K : Int32 → Prop} : ms_aL (ms_x X t) a K = K (nI n) := by
  have e : ms_arr (ms_x X t) a = some (0, n, .inl f) := by unfold ms_arr; rw [tl_g h]
  unfold ms_aL; rw [e]; rfl
/-- the code: an array of numbers -/
def tl_w (t : ms_S) (a n : Nat) (w : Nat → Nat) : Prop := n < 2 ^ 30 ∧ (∀ i, i < n → w i < 2 ^ 30) ∧ ∃ f, tl_a t a n f ∧ ∀ i, i < n → f i = nI (w i)
theorem tl_wr {K : Int32 → Prop} (h : tl_w t ca n w) (hk : k < n) (H : K (nI (w k))) {X : cx_T} : ms_rI (ms_x X t) ca 0 (nI k) K := by
  obtain ⟨h0, h1, f, h2, h3⟩ := h
  rw [tl_r h2]
  refine ⟨ms_in hk (by omega), ?_⟩
  rw [ms_nc (by omega), h3 k hk]
  exact H
/-- up to the step itself -/
theorem c2_w23 (hc : tl_w t ca n w) (hs : stop ≤ n) (hk : k < stop) (hno : ¬ w_may w stop k l → Q (some (.int 0)) (ms_x (cx_sq X g0 q) t)) (hl : l.length < 2 ^ 30)
    (h : w_may w stop k l → ms_V cd_X2_works none 4 (ms_Cl d) Q 134 [(0, .ref 12), (1, .ref ca), (3, .int (nI stop)), (4, .int (tpI l)), (5, .int (nI k)), (6, .int (nI (w k))), (7, .int (ms_bi (w_wrd (w k)))), (8, .int (ms_bi (w_fol (w k))))] [] (ms_x (cx_sq X g0 q) t)) : ms_V cd_X2_works none 4 (ms_Cl d) Q 23 [(0, .ref 12), (1, .ref ca), (3, .int (nI stop)), (4, .int (tpI l)), (5, .int (nI k))] [] (ms_x (cx_sq X g0 q) t) := by
  have hn : n < 2 ^ 30 := hc.1
  have hw : w k < 2 ^ 30 := hc.2.1 k (by omega)
  have c : ∀ j : Nat, j < 2 ^ 31 → ((nI (w k) = nI j) ↔ w k = j) := fun j hj => Iff.of_eq (ms_nI_eq (by omega) hj)
  have e1 : nI k + 1 = nI (k + 1) := ms_p1 1
  refine b_X2_works_23 (ms_no (fun z => ?_) (tl_wr hc (by omega) ?_))
  · have := (ms_nle (by omega) (by omega)).mp z
    omega
  have h114 : ∀ b1 b2 : Bool, w_wrd (w k) = b1 → w_fol (w k) = b2 → l.length < 52 → (w_fol (w k) = true → k + 1 < stop) → ms_V cd_X2_works none 4 (ms_Cl d) Q 114 [(0, .ref 12), (1, .ref ca), (3, .int (nI stop)), (4, .int (tpI l)), (5, .int (nI k)), (6, .int (nI (w k))), (7, .int (ms_bi b1)), (8, .int (ms_bi b2))] [] (ms_x (cx_sq X g0 q) t) := by
    intro b1 b2 hb1 hb2 hl1 hf
    rw [← hb1, ← hb2]
    refine b_X2_works_114 (ms_ifT (fun h1 => ?_) (fun h1 => ?_))
    · by_cases h2 : w k = 300
      · exact ms_yes ((c 300 (by decide)).mpr h2) (h ⟨hl1, hf, Or.inr (Or.inl h2)⟩)
      · refine ms_no (mt (c 300 (by decide)).mp h2) ?_
        by_cases h3 : l = []
        · refine ms_no (Int32.not_le.mpr ((tpI_neg (by omega)).mpr h3)) ⟨(by first | exact Or.inr rfl | exact Or.inl rfl | exact Or.inl trivial | exact Or.inr trivial | trivial), hno (fun z => ?_)⟩
          rcases z.2.2 with z | z | z
          · rw [h1] at z; cases z
          · exact h2 z
          · exact z h3
        · exact ms_yes (Int32.not_lt.mp (mt (tpI_neg (by omega)).mp h3)) (h ⟨hl1, hf, Or.inr (Or.inr h3)⟩)
    · exact h ⟨hl1, hf, Or.inl h1⟩
  have h82 : ∀ b1 : Bool, w_wrd (w k) = b1 → w_fol (w k) = true → ms_V cd_X2_works none 4 (ms_Cl d) Q 82 [(0, .ref 12), (1, .ref ca), (3, .int (nI stop)), (4, .int (tpI l)), (5, .int (nI k)), (6, .int (nI (w k))), (7, .int (ms_bi b1))] [] (ms_x (cx_sq X g0 q) t) := by
    intro b1 hb1 hf
    refine b_X2_works_82 ?_
    simp only [xf_12_1, xl_14, ms_oR_e, tpI_1, e1]
    by_cases h1 : 52 ≤ l.length
    · exact ms_yes ((ms_nle (by decide) (by omega)).mpr h1) ⟨(by first | exact Or.inr rfl | exact Or.inl rfl | exact Or.inl trivial | exact Or.inr trivial | trivial), hno (fun z => by have := z.1; omega)⟩
    refine ms_no (fun z => h1 ((ms_nle (by decide) (by omega)).mp z)) (ms_no (by decide) ?_)
    by_cases h2 : stop ≤ k + 1
    · refine ms_yes ((ms_nle (by omega) (by omega)).mpr h2) ⟨(by first | exact Or.inr rfl | exact Or.inl rfl | exact Or.inl trivial | exact Or.inr trivial | trivial), hno (fun z => by have := z.2.1 hf; omega)⟩
    · exact ms_no (fun z => h2 ((ms_nle (by omega) (by omega)).mp z)) (h114 b1 true hb1 hf (by omega) (fun _ => by omega))
  have h55 : w_wrd (w k) = false → ms_V cd_X2_works none 4 (ms_Cl d) Q 55 [(0, .ref 12), (1, .ref ca), (3, .int (nI stop)), (4, .int (tpI l)), (5, .int (nI k)), (6, .int (nI (w k)))] [] (ms_x (cx_sq X g0 q) t) := by
    intro hb1
    refine b_X2_works_55 ?_
    by_cases h1 : w k = 300
    · exact ms_yes ((c 300 (by decide)).mpr h1) (h82 false hb1 (by unfold w_fol; rw [h1]; rfl))
    refine ms_no (mt (c 300 (by decide)).mp h1) ?_
    by_cases h2 : w k = 275
    · exact ms_yes ((c 275 (by decide)).mpr h2) (h82 false hb1 (by unfold w_fol; rw [h2]; rfl))
    refine ms_no (mt (c 275 (by decide)).mp h2) ?_
    by_cases h3 : w k = 274
    · exact ms_yes ((c 274 (by decide)).mpr h3) (h82 false hb1 (by unfold w_fol; rw [h3]; rfl))
    refine ms_no (mt (c 274 (by decide)).mp h3) ?_
    have hf : w_fol (w k) = false := by
      unfold w_fol
      rw [decide_eq_false h1, decide_eq_false h2, decide_eq_false h3]
      rfl
    simp only [xf_12_1, xl_14, ms_oR_e, tpI_1]
    by_cases h4 : 52 ≤ l.length
    · exact ms_yes ((ms_nle (by decide) (by omega)).mpr h4) ⟨(by first | exact Or.inr rfl | exact Or.inl rfl | exact Or.inl trivial | exact Or.inr trivial | trivial), hno (fun z => by have := z.1; omega)⟩
    · exact ms_no (fun z => h4 ((ms_nle (by decide) (by omega)).mp z)) (ms_yes trivial (h114 false false hb1 hf (by omega) (fun z => by rw [hf] at z; cases z)))
  by_cases h1 : w k < 256
  · exact ms_yes ((ms_nlt (by omega) (b := 256) (by decide)).mpr h1) (h55 (by unfold w_wrd; rw [decide_eq_false (by omega)]; rfl))
  refine ms_no (fun z => h1 ((ms_nlt (by omega) (b := 256) (by decide)).mp z)) ?_
  by_cases h2 : 268 ≤ w k
  · exact ms_yes ((ms_nle (a := 268) (by decide) (by omega)).mpr h2) (h55 (by unfold w_wrd; rw [decide_eq_false (show ¬ w k < 268 by omega)]; simp))
  refine ms_no (fun z => h2 ((ms_nle (a := 268) (by decide) (by omega)).mp z)) ?_
  refine ms_no (fun z => by have := (c 300 (by decide)).mp z; omega) (ms_no (fun z => by have := (c 275 (by decide)).mp z; omega) (ms_no (fun z => by have := (c 274 (by decide)).mp z; omega) ?_))
  have hf : w_fol (w k) = false := by
    unfold w_fol
    rw [decide_eq_false (by omega), decide_eq_false (by omega), decide_eq_false (by omega)]
    rfl
  have hb : w_wrd (w k) = true := by
    unfold w_wrd
    rw [decide_eq_true (by omega), decide_eq_true (by omega)]
    rfl
  simp only [xf_12_1, xl_14, ms_oR_e, tpI_1]
  by_cases h4 : 52 ≤ l.length
  · exact ms_yes ((ms_nle (by decide) (by omega)).mpr h4) ⟨(by first | exact Or.inr rfl | exact Or.inl rfl | exact Or.inl trivial | exact Or.inr trivial | trivial), hno (fun z => by have := z.1; omega)⟩
  · exact ms_no (fun z => h4 ((ms_nle (by decide) (by omega)).mp z)) (ms_yes trivial (h114 true false hb hf (by omega) (fun z => by rw [hf] at z; cases z)))
/-- the leaf of works -/
def w_bot (l : List Int64) : Int64 := l.getLast?.getD 1
def c2_wk (X : cx_T) (t : ms_S) (o : Option (List Int64)) (r : Option Value) (g' : ms_S) : Prop := ∃ a q, g' = ms_x (cx_sq X a q) t ∧ match o with
  | none => r = some (.int 0)
  | some l => r = some (.int 1) ∧ a = w_bot l
theorem stk_bot {l : List Int64} {a : Int64} (h : stk q (a :: l)) : q 0 = w_bot (a :: l) := by
  induction l generalizing a with
  | nil => exact h.1
  | cons b l ih =>
    rw [ih h.2]
    unfold w_bot
    rw [List.getLast?_cons_cons]
theorem w_may_len (h : w_may w stop k l) : l.length < 52 := h.1
theorem c2_wloop {env : Nat → Int32} (hc : tl_w t ca n w) (hs : stop ≤ n) (he : ∀ i, i < 12 → cx_a X 13 i = env i) : ∀ (m k : Nat) (l : List Int64) (q : Nat → Int64), stop - k < m → k < 2 ^ 31 → l.length < 2 ^ 30 → stk q l → ms_V cd_X2_works none 4 (ms_Cl (d + 1)) (c2_wk X t (w_go w env stop k l)) 23 [(0, .ref 12), (1, .ref ca), (3, .int (nI stop)), (4, .int (tpI l)), (5, .int (nI k))] [] (ms_x (cx_sq X 1 q) t) := by
  intro m
  induction m with
  | zero => intro k l q h; omega
  | succ m ih =>
    intro k l q hm hk31 hl hq
    have hn : n < 2 ^ 30 := hc.1
    by_cases hk : k < stop
    · have hw : w k < 2 ^ 30 := hc.2.1 k (by omega)
      have c : ∀ j : Nat, j < 2 ^ 31 → ((nI (w k) = nI j) ↔ w k = j) := fun j hj => Iff.of_eq (ms_nI_eq (by omega) hj)
      have e1 : nI k + 1 = nI (k + 1) := ms_p1 1
      have e2 : nI (k + 1) + 1 = nI (k + 2) := ms_p1 1
      refine c2_w23 hc hs hk (fun hno => ?_) hl (fun hy => ?_)
      · rw [w_go_step hk, w_may_no hno]
        exact ⟨_, _, rfl, rfl⟩
      have hl52 := hy.1
      rw [w_go_step hk]
      by_cases hw2 : 256 ≤ w k ∧ w k < 268
      · have hb : w_wrd (w k) = true := by unfold w_wrd; rw [decide_eq_true hw2.1, decide_eq_true hw2.2]; rfl
        rw [w_st_word hl52 hw2]
        refine b_X2_works_134 ?_
        rw [hb]
        refine ms_no (by decide) ?_
        simp only [xf_12_1, xf_12_0, ms_oR_e, xr_13, xw_14, tpI_1, e1]
        have e3 : nI (w k) - 256 = nI (w k - 256) := by
          have e4 : w k = (w k - 256) + 256 := by omega
          generalize w k - 256 = z at e4
          rw [e4, ← ms_p1]
          exact Int32.add_sub_cancel _ _
        rw [e3]
        refine ⟨ms_in (by omega) (by decide), ms_in (by omega) (by decide), ?_⟩
        rw [ms_nc (by omega), ms_nc (by omega), show cx_a (cx_sq X 1 q) 13 (w k - 256) = env (w k - 256) from he _ (by omega)]
        exact ih (k + 1) (_ :: l) _ (by omega) (by omega) (by rw [List.length_cons]; omega) (stk_push hq)
      have hb : w_wrd (w k) = false := by
        unfold w_wrd
        rw [← Bool.decide_and, decide_eq_false hw2]
      by_cases h3 : w k = 300
      · have hst := hy.2.1 (by unfold w_fol; rw [h3]; rfl)
        rw [w_st_num hl52 h3 hst]
        refine b_X2_works_134 ?_
        rw [hb]
        refine ms_yes rfl (ms_yes ((c 300 (by decide)).mpr h3) ?_)
        simp only [xf_12_1, ms_oR_e, e1]
        refine tl_wr hc (by omega) ?_
        simp only [tpI_1, xw_14, e2]
        refine ⟨ms_in (by omega) (by decide), ?_⟩
        rw [ms_nc (by omega)]
        exact ih (k + 2) (_ :: l) _ (by omega) (by omega) (by rw [List.length_cons]; omega) (stk_push hq)
      have hl0 : l ≠ [] := by
        rcases hy.2.2 with z | z | z
        · rw [hb] at z; cases z
        · exact absurd z h3
        · exact z
      cases l with
      | nil => exact absurd rfl hl0
      | cons a l =>
        rw [List.length_cons] at hl hl52
        by_cases h5 : w k = 276
        · rw [w_st_not hl52 h5]
          refine b_X2_works_134 ?_
          rw [hb]
          refine ms_yes rfl (ms_no (mt (c 300 (by decide)).mp h3) (ms_yes ((c 276 (by decide)).mpr h5) ?_))
          simp only [xf_12_1, ms_oR_e, e1, xr_14, xw_14, tpI]
          refine ⟨ms_in (by omega) (by decide), ms_in (by omega) (by decide), ?_⟩
          rw [ms_nc (by omega), show cx_q (cx_sq X 1 q) l.length = a from hq.1]
          exact ih (k + 1) ((1 - a) :: l) _ (by omega) (by omega) (by rw [List.length_cons]; omega) (stk_push hq.2)
        by_cases h6 : w k = 274 ∨ w k = 275
        · have hf : w_fol (w k) = true := by
            unfold w_fol
            rcases h6 with z | z <;> rw [z] <;> rfl
          have hst := hy.2.1 hf
          have hwk := hc.2.1 (k + 1) (by omega)
          have ejump : ∀ x : Nat, x < 2 ^ 30 → (if nI (k + 1) < nI x - 1 then nI x - 1 else nI (k + 1)) + 1 = nI (max (k + 2) x) := by
            intro x hx
            cases x with
            | zero =>
              rw [show nI 0 - 1 = (-1 : Int32) by decide, if_neg (fun z => absurd (Int32.lt_trans z (show (-1 : Int32) < 0 by decide)) (Int32.not_lt.mpr (ms_nI_0 (by omega)))), e2]
              congr 1
            | succ x =>
              rw [ms_nI_m1]
              by_cases hz : k + 1 < x
              · rw [if_pos ((ms_nlt (by omega) (by omega)).mpr hz), show nI x + 1 = nI (x + 1) from ms_p1 1]
                congr 1
                omega
              · rw [if_neg (fun z => hz ((ms_nlt (by omega) (by omega)).mp z)), e2]
                congr 1
                omega
          have hjmp : ms_rI (ms_x (cx_sq X 1 q) t) ca 0 (nI (k + 1)) fun x => ms_V cd_X2_works none 4 (ms_Cl (d + 1)) (c2_wk X t (w_go w env stop (max (k + 2) (w (k + 1))) (a :: l))) 23 [(0, .ref 12), (1, .ref ca), (3, .int (nI stop)), (4, .int (tpI (a :: l))), (5, .int ((if nI (k + 1) < x - 1 then x - 1 else nI (k + 1)) + 1))] [] (ms_x (cx_sq X 1 q) t) := by
            refine tl_wr hc (by omega) ?_
            rw [ejump _ hwk]
            by_cases hbig : max (k + 2) (w (k + 1)) < 2 ^ 31
            · exact ih _ (a :: l) q (by omega) hbig (by rw [List.length_cons]; omega) hq
            · omega
          have hpop : ms_V cd_X2_works none 4 (ms_Cl (d + 1)) (c2_wk X t (w_go w env stop (k + 2) l)) 23 [(0, .ref 12), (1, .ref ca), (3, .int (nI stop)), (4, .int (tpI l)), (5, .int (nI (k + 2)))] [] (ms_x (cx_sq X 1 q) t) := ih _ l q (by omega) (by omega) (by omega) hq.2
          have hread : ∀ Z : Int64 → Prop, Z a → ms_rL (ms_x (cx_sq X 1 q) t) 14 (tpI (a :: l)) Z := by
            intro Z hZ
            rw [xr_14]
            refine ⟨ms_in (k := l.length) (by omega) (by decide), ?_⟩
            rw [show cx_q (cx_sq X 1 q) (tpI (a :: l)).toNatClampNeg = a by
              show q (nI l.length).toNatClampNeg = a
              rw [ms_nc (by omega)]
              exact hq.1]
            exact hZ
          by_cases ha : a = 0
          · rcases h6 with h6 | h6
            · rw [w_st_pop hl52 (Or.inl h6) hst (Or.inr ⟨h6, ha⟩)]
              refine b_X2_works_134 ?_
              rw [hb, hf]
              refine ms_yes rfl (ms_no (mt (c 300 (by decide)).mp h3) (ms_no (mt (c 276 (by decide)).mp h5) (ms_no (by decide) ?_)))
              simp only [xf_12_1, ms_oR_e, e1, e2, tpI_m]
              exact hread _ (ms_yes ((lg_cmp_eq _ _).mpr ha) (ms_yes ((c 274 (by decide)).mpr h6) (ms_no (by decide) hpop)))
            · rw [w_st_jmp hl52 (Or.inr h6) hst (Or.inl ⟨h6, ha⟩)]
              refine b_X2_works_134 ?_
              rw [hb, hf]
              refine ms_yes rfl (ms_no (mt (c 300 (by decide)).mp h3) (ms_no (mt (c 276 (by decide)).mp h5) (ms_no (by decide) ?_)))
              simp only [xf_12_1, ms_oR_e, e1, e2, tpI_m]
              exact hread _ (ms_yes ((lg_cmp_eq _ _).mpr ha) (ms_no (fun z => by have := (c 274 (by decide)).mp z; omega) (ms_yes trivial hjmp)))
          · rcases h6 with h6 | h6
            · rw [w_st_jmp hl52 (Or.inl h6) hst (Or.inr ⟨h6, ha⟩)]
              refine b_X2_works_134 ?_
              rw [hb, hf]
              refine ms_yes rfl (ms_no (mt (c 300 (by decide)).mp h3) (ms_no (mt (c 276 (by decide)).mp h5) (ms_no (by decide) ?_)))
              simp only [xf_12_1, ms_oR_e, e1, e2, tpI_m]
              exact hread _ (ms_no (mt (lg_cmp_eq _ _).mp ha) (ms_yes ((c 274 (by decide)).mpr h6) (ms_yes trivial hjmp)))
            · rw [w_st_pop hl52 (Or.inr h6) hst (Or.inl ⟨h6, ha⟩)]
              refine b_X2_works_134 ?_
              rw [hb, hf]
              refine ms_yes rfl (ms_no (mt (c 300 (by decide)).mp h3) (ms_no (mt (c 276 (by decide)).mp h5) (ms_no (by decide) ?_)))
              simp only [xf_12_1, ms_oR_e, e1, e2, tpI_m]
              exact hread _ (ms_no (mt (lg_cmp_eq _ _).mp ha) (ms_no (fun z => by have := (c 274 (by decide)).mp z; omega) (ms_no (by decide) hpop)))
        have hf : w_fol (w k) = false := by
          unfold w_fol
          rw [decide_eq_false h3, decide_eq_false (fun z => h6 (Or.inr z)), decide_eq_false (fun z => h6 (Or.inl z))]
          rfl
        cases l with
        | nil =>
          rw [w_st_op1 (by simp) hw2 h3 h5 h6 (by simp)]
          refine b_X2_works_134 ?_
          rw [hb, hf]
          exact ms_yes rfl (ms_no (mt (c 300 (by decide)).mp h3) (ms_no (mt (c 276 (by decide)).mp h5) (ms_yes rfl (ms_yes (show (nI 0 : Int32) < 1 by decide) ⟨(by first | exact Or.inr rfl | exact Or.inl rfl | exact Or.inl trivial | exact Or.inr trivial | trivial), _, _, rfl, rfl⟩))))
        | cons b l =>
          rw [List.length_cons] at hl hl52
          rw [w_st_op (by omega) hw2 h3 h5 h6]
          refine b_X2_works_134 ?_
          rw [hb, hf]
          refine ms_yes rfl (ms_no (mt (c 300 (by decide)).mp h3) (ms_no (mt (c 276 (by decide)).mp h5) (ms_yes rfl (ms_no (fun z => ?_) ?_))))
          · have := (ms_nlt (a := l.length + 1) (b := 1) (by omega) (by decide)).mp z
            omega
          refine mx_c1 (c2_joins (n := l.length) (a := b) (b := a) (by omega) (by omega) hq.2.1 hq.1) (fun r g' hr => ?_)
          obtain ⟨q', rfl, hr⟩ := hr
          cases hj : w_jn (w k) b a with
          | none =>
            rw [hj] at hr
            exact ⟨0, hr, ms_yes rfl ⟨(by first | exact Or.inr rfl | exact Or.inl rfl | exact Or.inl trivial | exact Or.inr trivial | trivial), _, _, rfl, rfl⟩⟩
          | some m =>
            rw [hj] at hr
            refine ⟨1, hr.1, ms_no (by decide) ?_⟩
            rw [hr.2, tpI_m, e1]
            exact ih (k + 1) (m :: l) _ (by omega) (by omega) (by rw [List.length_cons]; omega) (stk_push hq.2.2)
    · refine b_X2_works_23 (ms_yes ((ms_nle (by omega) (by omega)).mpr (by omega)) ?_)
      rw [w_go_end (by omega)]
      cases l with
      | nil => exact ms_yes (by decide) ⟨(by first | exact Or.inr rfl | exact Or.inl rfl | exact Or.inl trivial | exact Or.inr trivial | trivial), 1, q, rfl, rfl, rfl⟩
      | cons a l =>
        refine ms_no (fun z => ?_) ?_
        · have := (tpI_neg (l := a :: l) (by omega)).mp z
          cases this
        simp only [xf_12_1, ms_oR_e, xr_14, xp_12_2]
        refine ⟨by unfold vp_in; decide, (by first | exact Or.inr rfl | exact Or.inl rfl | exact Or.inl trivial | exact Or.inr trivial | trivial), q 0, q, rfl, rfl, stk_bot hq⟩
theorem c2_works {env : Nat → Int32} {s0 : Nat} (hc : tl_w t ca n w) (hs : stop ≤ n) (h0 : s0 ≤ stop) (he : ∀ i, i < 12 → cx_a X 13 i = env i) : ms_H' (d + 2) 48 [.ref 12, .ref ca, .int (nI s0), .int (nI stop)] (ms_x X t) (c2_wk X t (w_go w env stop s0 [])) := by
  have hn : n < 2 ^ 30 := hc.1
  refine mx_m (fun a b c => m_X2_works a b ⟨_, xo_12⟩ c) (fun r g' h => ?_) (b_X2_works_0 ?_)
  · obtain ⟨a, q, e, _⟩ := h
    rw [e]
    exact ⟨ms_x_l, ms_x_t⟩
  simp only [xp_12_2]
  refine ms_no (Int32.not_lt.mpr (ms_nI_0 (by omega))) ?_
  obtain ⟨_, _, f, hf, _⟩ := hc
  rw [tl_l hf]
  refine ms_yes ((ms_nle (by omega) (by omega)).mpr hs) ?_
  exact c2_wloop (X := X) ⟨hn, by assumption, f, hf, by assumption⟩ hs he _ s0 [] (cx_q X) (Nat.lt_succ_self _) (by omega) (by decide) trivial
end Evd
