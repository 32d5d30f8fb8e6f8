/-! THE CLASS'S LAWS AT WORK: a piece of code worked out; written by wip/whole/mdl.py from evc.txt -/
def cx_sq (X : cx_T) (g : Int64) (q : Nat → Int64) : cx_T := (X.1, X.2.1, g, q, X.2.2.2.2)
section Evr
variable {X : cx_T} {t : ms_S}
theorem xf_12_2 : ms_fldL (ms_x X t) 12 2 2 = some (cx_g X) := ms_fldL_of xo_12 rfl
theorem xp_12_2 {x : Int64} {K : ms_S → Prop} : ms_wF (ms_x X t) 12 2 2 (.long x) K = K (ms_x (cx_ug X x) t) := by
  unfold ms_wF ms_put; rw [ms_fld_of xo_12 (v := .long (cx_g X)) rfl, xo_12]
  show (True ∧ K ((ms_x X t).set 12 _)) = _
  rw [true_and, cx_set (X := X) (.inr (2, [.ref 13, .ref 14, .long (cx_g X)].set 2 (.long x))) (cx_ug X x) rfl (Nat.le_of_ble_eq_true rfl)]
theorem xe_14 : ms_arr (ms_x X t) 14 = some (1, 52, .inr (.inl (cx_q X))) := by unfold ms_arr; rw [cx_get (v := .inl (1, 52, .inr (.inl (cx_q X)))) rfl]
theorem xr_14 {i : Int32} {K : Int64 → Prop} : ms_rL (ms_x X t) 14 i K = (vp_in i 52 ∧ K (cx_q X i.toNatClampNeg)) := by
  unfold ms_rL; rw [xe_14]; rfl
theorem xw_14 {i : Int32} {x : Int64} {K : ms_S → Prop} : ms_wL (ms_x X t) 14 i x K = (vp_in i 52 ∧ K (ms_x (cx_uq X i.toNatClampNeg x) t)) := by
  unfold ms_wL; rw [xe_14]
  show (_ ∧ K ((ms_x X t).set 14 _)) = _
  rw [cx_set (X := X) (.inl (1, 52, .inr (.inl (vp_updL (cx_q X) i.toNatClampNeg x)))) (cx_uq X i.toNatClampNeg x) rfl (Nat.le_of_ble_eq_true rfl)]
theorem xl_14 {K : Int32 → Prop} : ms_aL (ms_x X t) 14 K = K (nI 52) := by
  unfold ms_aL; rw [xe_14]; rfl
end Evr
/-- a stack in an array of longs -/
def stk (q : Nat → Int64) : List Int64 → Prop
  | [] => True
  | a :: l => q l.length = a ∧ stk q l
theorem stk_up {q : Nat → Int64} {n : Nat} {x : Int64} {l : List Int64} (h : stk q l) (hn : l.length ≤ n) : stk (vp_updL q n x) l := by
  induction l with
  | nil => exact h
  | cons a l ih =>
    rw [List.length_cons] at hn
    refine ⟨?_, ih h.2 (by omega)⟩
    unfold vp_updL
    rw [if_neg (by omega)]
    exact h.1
theorem stk_push {q : Nat → Int64} {x : Int64} {l : List Int64} (h : stk q l) : stk (vp_updL q l.length x) (x :: l) := by
  refine ⟨?_, stk_up h (Nat.le_refl _)⟩
  unfold vp_updL
  rw [if_pos rfl]
/-- what a sign makes of two numbers, none if that is broken -/
def w_op (s : Nat) (a b : Int64) : Int64 := if s = 42 then a * b else if s = 43 then a + b else if s = 45 then a - b else if s = 47 then a / b else if s = 60 then (if a < b then 1 else 0) else if s = 62 then (if b < a then 1 else 0) else (if a = b then 1 else 0)
def w_jn (s : Nat) (a b : Int64) : Option Int64 := if s = 47 ∧ b = 0 then none else if 1000000000 < w_op s a b then none else if w_op s a b < -1000000000 then none else some (w_op s a b)
/-- a step over a piece of code: where to go on, the stack -/
def w_st (w : Nat → Nat) (env : Nat → Int32) (stop k : Nat) (l : List Int64) : Option (Nat × List Int64) :=
  if 52 ≤ l.length then none else
  if 256 ≤ w k ∧ w k < 268 then some (k + 1, (env (w k - 256)).toInt64 :: l) else
  if w k = 300 then (if stop ≤ k + 1 then none else some (k + 2, (nI (w (k + 1))).toInt64 :: l)) else
  match l with
  | [] => none
  | a :: l' =>
    if w k = 276 then some (k + 1, (1 - a) :: l') else
    if w k = 274 ∨ w k = 275 then (if stop ≤ k + 1 then none else if decide (a = 0) = decide (w k = 275) then some (max (k + 2) (w (k + 1)), a :: l') else some (k + 2, l')) else
    match l' with
    | [] => none
    | b :: l'' => (w_jn (w k) b a).map fun m => (k + 1, m :: l'')
def w_run (w : Nat → Nat) (env : Nat → Int32) (stop : Nat) : Nat → Nat → List Int64 → Option (List Int64)
  | 0, _, _ => none
  | F + 1, k, l => if stop ≤ k then some l else match w_st w env stop k l with
    | none => none
    | some p => w_run w env stop F p.1 p.2
theorem w_st_gt {w : Nat → Nat} {env : Nat → Int32} {stop k : Nat} {l : List Int64} {p : Nat × List Int64} (h : w_st w env stop k l = some p) : k < p.1 := by
  unfold w_st at h
  split at h
  · cases h
  split at h
  · cases h; exact Nat.lt_succ_self _
  split at h
  · split at h
    · cases h
    · cases h; show k < k + 2; omega
  split at h
  · cases h
  split at h
  · cases h; exact Nat.lt_succ_self _
  split at h
  · split at h
    · cases h
    split at h
    · cases h; show k < max (k + 2) _; omega
    · cases h; show k < k + 2; omega
  split at h
  · cases h
  · rw [Option.map_eq_some_iff] at h
    obtain ⟨m, _, e⟩ := h
    rw [← e]
    exact Nat.lt_succ_self _
theorem w_run_eq {w : Nat → Nat} {env : Nat → Int32} {stop : Nat} : ∀ (F G k : Nat) (l : List Int64), stop - k < F → stop - k < G → w_run w env stop F k l = w_run w env stop G k l := by
  intro F
  induction F with
  | zero => intro G k l h; omega
  | succ F ih =>
    intro G k l h1 h2
    cases G with
    | zero => omega
    | succ G =>
      unfold w_run
      by_cases h3 : stop ≤ k
      · rw [if_pos h3, if_pos h3]
      · rw [if_neg h3, if_neg h3]
        cases h4 : w_st w env stop k l with
        | none => rfl
        | some p =>
          have := w_st_gt h4
          exact ih G p.1 p.2 (by omega) (by omega)
def w_go (w : Nat → Nat) (env : Nat → Int32) (stop k : Nat) (l : List Int64) : Option (List Int64) := w_run w env stop (stop - k + 1) k l
theorem w_go_end {w : Nat → Nat} {env : Nat → Int32} {stop k : Nat} {l : List Int64} (h : stop ≤ k) : w_go w env stop k l = some l := by
  unfold w_go w_run
  rw [if_pos h]
theorem w_go_step {w : Nat → Nat} {env : Nat → Int32} {stop k : Nat} {l : List Int64} (h : k < stop) : w_go w env stop k l = match w_st w env stop k l with | none => none | some p => w_go w env stop p.1 p.2 := by
  unfold w_go
  rw [w_run, if_neg (by omega)]
  cases h4 : w_st w env stop k l with
  | none => rfl
  | some p =>
    have := w_st_gt h4
    exact w_run_eq _ _ _ _ (by omega) (by omega)
section Evc
variable {d : Nat} {X : cx_T} {t : ms_S} {g0 : Int64} {q : Nat → Int64}
theorem lg_i64 {a b : Int32} : (Int32.toInt64 a ≤ Int32.toInt64 b) ↔ a ≤ b := ms_i64
/-- the leaf of joins -/
def c2_jn (X : cx_T) (t : ms_S) (g0 : Int64) (q : Nat → Int64) (n : Nat) (o : Option Int64) (r : Option Value) (g' : ms_S) : Prop := ∃ q', g' = ms_x (cx_sq X g0 q') t ∧ match o with
  | none => r = some (.int 0)
  | some m => r = some (.int 1) ∧ q' = vp_updL q n m
theorem c2_join2 {n s : Nat} {a b m : Int64} (hn : n + 1 < 52) (hm : m = w_op s a b) (hz : ¬ (s = 47 ∧ b = 0)) : ms_V cd_X2_joins none 4 (ms_Cl d) (c2_jn X t g0 q n (w_jn s a b)) 169 [(0, .ref 12), (2, .int (nI (n + 1))), (7, .long m)] [] (ms_x (cx_sq X g0 q) t) := by
  refine b_X2_joins_169 ?_
  have e1 : nI (n + 1) - 1 = nI n := ms_nI_m1
  rw [e1]
  simp only [xf_12_1, xw_14, ms_oR_e]
  refine ⟨ms_in (by omega) (by decide), ?_⟩
  rw [ms_nc (by omega)]
  unfold w_jn
  rw [if_neg hz, ← hm]
  by_cases h1 : 1000000000 < m
  · rw [if_pos h1]
    exact ms_yes ((lg_cmp_gt _ _).mpr h1) ⟨(by first | exact Or.inr rfl | exact Or.inl rfl | trivial), _, rfl, rfl⟩
  rw [if_neg h1]
  refine ms_no (mt (lg_cmp_gt _ _).mp h1) ?_
  by_cases h2 : m < -1000000000
  · rw [if_pos h2]
    exact ms_yes ((lg_cmp_lt _ _).mpr h2) ⟨(by first | exact Or.inr rfl | exact Or.inl rfl | trivial), _, rfl, rfl⟩
  · rw [if_neg h2]
    exact ms_no (mt (lg_cmp_lt _ _).mp h2) ⟨(by first | exact Or.inr rfl | exact Or.inl rfl | trivial), _, rfl, rfl, rfl⟩
theorem c2_joins {n s : Nat} {a b : Int64} (hn : n + 1 < 52) (hs : s < 2 ^ 31) (ha : q n = a) (hb : q (n + 1) = b) : ms_H' (d + 1) 49 [.ref 12, .int (nI s), .int (nI (n + 1))] (ms_x (cx_sq X g0 q) t) (c2_jn X t g0 q n (w_jn s a b)) := by
  refine mx_m (fun a b c => m_X2_joins a b ⟨_, xo_12⟩ c) (fun r g' h => ?_) (b_X2_joins_0 ?_)
  · obtain ⟨q', e, _⟩ := h
    rw [e]
    exact ⟨ms_x_l, ms_x_t⟩
  have e1 : nI (n + 1) - 1 = nI n := ms_nI_m1
  rw [e1]
  simp only [xf_12_1, xr_14, ms_oR_e]
  refine ⟨ms_in (by omega) (by decide), ms_in (by omega) (by decide), ?_⟩
  rw [ms_nc (by omega), ms_nc (by omega), show cx_q (cx_sq X g0 q) n = a from ha, show cx_q (cx_sq X g0 q) (n + 1) = b from hb]
  have c : ∀ k : Nat, k < 2 ^ 31 → ((nI s = nI k) ↔ s = k) := fun k hk => Iff.of_eq (ms_nI_eq hs hk)
  by_cases h1 : s = 42
  · refine ms_yes ((c 42 (by decide)).mpr h1) (c2_join2 hn ?_ (by omega))
    unfold w_op; rw [if_pos h1]
  refine ms_no (mt (c 42 (by decide)).mp h1) ?_
  by_cases h2 : s = 43
  · refine ms_yes ((c 43 (by decide)).mpr h2) (c2_join2 hn ?_ (by omega))
    unfold w_op; rw [if_neg h1, if_pos h2]
  refine ms_no (mt (c 43 (by decide)).mp h2) ?_
  by_cases h3 : s = 45
  · refine ms_yes ((c 45 (by decide)).mpr h3) (c2_join2 hn ?_ (by omega))
    unfold w_op; rw [if_neg h1, if_neg h2, if_pos h3]
  refine ms_no (mt (c 45 (by decide)).mp h3) ?_
  by_cases h4 : s = 47
  · refine ms_yes ((c 47 (by decide)).mpr h4) ?_
    by_cases h5 : b = 0
    · refine ms_yes ((lg_cmp_eq _ _).mpr h5) ⟨(by first | exact Or.inr rfl | exact Or.inl rfl | trivial), _, rfl, ?_⟩
      unfold w_jn
      rw [if_pos ⟨h4, h5⟩]
    · refine ms_no (mt (lg_cmp_eq _ _).mp h5) ⟨h5, c2_join2 hn ?_ (fun z => h5 z.2)⟩
      unfold w_op; rw [if_neg h1, if_neg h2, if_neg h3, if_pos h4]
  refine ms_no (mt (c 47 (by decide)).mp h4) ?_
  by_cases h5 : s = 60
  · refine ms_yes ((c 60 (by decide)).mpr h5) ?_
    by_cases h6 : a < b
    · refine ms_no (fun z => absurd ((lg_cmp_ge _ _).mp z) (Int64.not_le.mpr h6)) (c2_join2 hn ?_ (by omega))
      unfold w_op; rw [if_neg h1, if_neg h2, if_neg h3, if_neg h4, if_pos h5, if_pos h6]
    · refine ms_yes ((lg_cmp_ge _ _).mpr (Int64.not_lt.mp h6)) (c2_join2 hn ?_ (by omega))
      unfold w_op; rw [if_neg h1, if_neg h2, if_neg h3, if_neg h4, if_pos h5, if_neg h6]
  refine ms_no (mt (c 60 (by decide)).mp h5) ?_
  by_cases h6 : s = 62
  · refine ms_yes ((c 62 (by decide)).mpr h6) ?_
    by_cases h7 : b < a
    · refine ms_no (fun z => absurd ((lg_cmp_le _ _).mp z) (Int64.not_le.mpr h7)) (c2_join2 hn ?_ (by omega))
      unfold w_op; rw [if_neg h1, if_neg h2, if_neg h3, if_neg h4, if_neg h5, if_pos h6, if_pos h7]
    · refine ms_yes ((lg_cmp_le _ _).mpr (Int64.not_lt.mp h7)) (c2_join2 hn ?_ (by omega))
      unfold w_op; rw [if_neg h1, if_neg h2, if_neg h3, if_neg h4, if_neg h5, if_pos h6, if_neg h7]
  refine ms_no (mt (c 62 (by decide)).mp h6) ?_
  by_cases h7 : a = b
  · refine ms_yes ((lg_cmp_eq _ _).mpr h7) (c2_join2 hn ?_ (by omega))
    unfold w_op; rw [if_neg h1, if_neg h2, if_neg h3, if_neg h4, if_neg h5, if_neg h6, if_pos h7]
  · refine ms_no (mt (lg_cmp_eq _ _).mp h7) (c2_join2 hn ?_ (by omega))
    unfold w_op; rw [if_neg h1, if_neg h2, if_neg h3, if_neg h4, if_neg h5, if_neg h6, if_neg h7]
end Evc
