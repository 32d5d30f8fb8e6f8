/-! THE MODEL WORKS CODE OUT: a pure machine and pieces of code; written by wip/whole/mdl.py from zev.txt -/
def z_sg (k : Nat) : Nat := if k = 20 then 43 else if k = 21 then 45 else if k = 22 then 42 else if k = 23 then 47 else if k = 24 then 60 else if k = 25 then 62 else 61
def z_env (env : Nat → Int32) (j : Nat) : Int64 := if 1 ≤ j ∧ j ≤ 7 then (env (j - 1)).toInt64 else if 12 ≤ j ∧ j ≤ 16 then (env (j - 5)).toInt64 else 0
/-- one step: none where it can't be, some none where it is broken -/
def z_st (o a : Nat → Nat) (env : Nat → Int32) (k : Nat) (l : List Int64) : Option (Option (Nat × List Int64)) :=
  if o k < 20 then (if l.length < 400 ∧ o k < 17 then some (some (k + 1, (if o k = 0 then (nI (a k)).toInt64 else z_env env (o k)) :: l)) else none) else match l with
  | [] => none
  | x :: l1 => if 27 < o k then (if x = (if o k = 28 then 0 else 1) then some (some (a k, x :: l1)) else some (some (k + 1, l1))) else if o k = 27 then some (some (k + 1, (1 - x) :: l1)) else match l1 with
    | [] => none
    | y :: l2 => match w_jn (z_sg (o k)) y x with
      | none => some none
      | some m => some (some (k + 1, m :: l2))
def z_run (o a : Nat → Nat) (env : Nat → Int32) (stop : Nat) : Nat → Nat → List Int64 → Option (Option (List Int64))
  | 0, _, _ => none
  | F + 1, k, l => if stop ≤ k then some (some l) else match z_st o a env k l with
    | none => none
    | some none => some none
    | some (some p) => z_run o a env stop F p.1 p.2
def z_ev (o a : Nat → Nat) (env : Nat → Int32) (stop k : Nat) (l : List Int64) (res : Option (List Int64)) : Prop := ∃ F, z_run o a env stop F k l = some res
section Zev
variable {o a : Nat → Nat} {env : Nat → Int32} {stop k : Nat} {l : List Int64} {res : Option (List Int64)}
theorem z_ev_end (h : stop ≤ k) : z_ev o a env stop k l (some l) := ⟨1, by unfold z_run; rw [if_pos h]⟩
theorem z_ev_step {p : Nat × List Int64} (h : k < stop) (hs : z_st o a env k l = some (some p)) (hr : z_ev o a env stop p.1 p.2 res) : z_ev o a env stop k l res := by
  obtain ⟨F, hF⟩ := hr
  refine ⟨F + 1, ?_⟩
  unfold z_run
  rw [if_neg (by omega), hs]
  exact hF
theorem z_ev_broken (h : k < stop) (hs : z_st o a env k l = some none) : z_ev o a env stop k l none := by
  refine ⟨1, ?_⟩
  unfold z_run
  rw [if_neg (by omega), hs]
theorem z_st_leaf (h : o k < 17) (hl : l.length < 400) : z_st o a env k l = some (some (k + 1, (if o k = 0 then (nI (a k)).toInt64 else z_env env (o k)) :: l)) := by
  unfold z_st
  rw [if_pos (by omega), if_pos ⟨hl, h⟩]
theorem z_st_op {x y : Int64} (h : 20 ≤ o k ∧ o k < 27) : z_st o a env k (x :: y :: l) = match w_jn (z_sg (o k)) y x with
      | none => some none
      | some m => some (some (k + 1, m :: l)) := by
  unfold z_st
  rw [if_neg (by omega)]
  simp only
  rw [if_neg (by omega), if_neg (by omega)]
theorem z_st_not {x : Int64} (h : o k = 27) : z_st o a env k (x :: l) = some (some (k + 1, (1 - x) :: l)) := by
  unfold z_st
  rw [if_neg (by omega)]
  simp only
  rw [if_neg (by omega), if_pos h]
theorem z_st_j {x : Int64} (h : 27 < o k) : z_st o a env k (x :: l) = if x = (if o k = 28 then 0 else 1) then some (some (a k, x :: l)) else some (some (k + 1, l)) := by
  unfold z_st
  rw [if_neg (by omega)]
  simp only
  rw [if_pos h]
/-- the marks that are 0 or 1 are so -/
def ev_b (env : Nat → Int32) : Prop := ∀ i, 7 ≤ i → i < 12 → env i = 0 ∨ env i = 1
/-- a piece of the model's code from s to e (with at most n leaves) that answers f -/
def CM (o a : Nat → Nat) (s e n : Nat) (f : dn_T) : Prop := s < e ∧ 1 ≤ n ∧ ∀ (o' a' : Nat → Nat), (∀ i, s ≤ i → i < e → o' i = o i ∧ a' i = a i) → ∀ env stop l res, ev_b env → e ≤ stop → l.length + n ≤ 400 → (match f env with
  | some v => z_ev o' a' env stop e (v :: l) res
  | none => res = none) → z_ev o' a' env stop s l res
variable {o1 a1 : Nat → Nat} {s e m n n1 n2 : Nat} {f g : dn_T}
theorem CM.loc (h : CM o a s e n f) (hw : ∀ i, s ≤ i → i < e → o1 i = o i ∧ a1 i = a i) : CM o1 a1 s e n f :=
  ⟨h.1, h.2.1, fun o' a' h' => h.2.2 o' a' (fun i h1 h2 => ⟨by rw [(h' i h1 h2).1, (hw i h1 h2).1], by rw [(h' i h1 h2).2, (hw i h1 h2).2]⟩)⟩
theorem CM.more (h : CM o a s e n f) (hn : n ≤ n1) : CM o a s e n1 f :=
  ⟨h.1, Nat.le_trans h.2.1 hn, fun o' a' h' env stop l res hv he hl => h.2.2 o' a' h' env stop l res hv he (by omega)⟩
theorem CM_word {i : Nat} (h : o s = if i < 7 then i + 1 else i + 5) (hi : i < 12) : CM o a s (s + 1) 1 (fun env => some (env i).toInt64) := by
  refine ⟨Nat.lt_succ_self _, Nat.le_refl _, fun o' a' h' env stop l res hv he hl hr => ?_⟩
  have e1 := (h' s (Nat.le_refl _) (Nat.lt_succ_self _)).1
  rw [h] at e1
  refine z_ev_step (by omega) (z_st_leaf (by rw [e1]; split <;> omega) (by omega)) ?_
  have e2 : ((if o' s = 0 then (nI (a' s)).toInt64 else z_env env (o' s)) : Int64) = (env i).toInt64 := by
    rw [e1]
    by_cases h7 : i < 7
    · rw [if_pos h7, if_neg (by omega)]
      unfold z_env
      rw [if_pos (by omega), Nat.add_sub_cancel]
    · rw [if_neg h7, if_neg (by omega)]
      unfold z_env
      rw [if_neg (by omega), if_pos (by omega), Nat.add_sub_cancel]
  simp only [e2]
  exact hr
theorem CM_num (h : o s = 0) : CM o a s (s + 1) 1 (fun _ => some (nI (a s)).toInt64) := by
  refine ⟨Nat.lt_succ_self _, Nat.le_refl _, fun o' a' h' env stop l res hv he hl hr => ?_⟩
  have e1 := h' s (Nat.le_refl _) (Nat.lt_succ_self _)
  rw [h] at e1
  refine z_ev_step (by omega) (z_st_leaf (by rw [e1.1]; decide) (by omega)) ?_
  simp only [e1.1, if_true, e1.2]
  exact hr
theorem CM_op (h1 : CM o a s m n1 f) (h2 : CM o a m e n2 g) (hk : 20 ≤ o e ∧ o e < 27) : CM o a s (e + 1) (n1 + n2) (dn_op (z_sg (o e)) f g) := by
  have a1 := h1.1
  have a2 := h2.1
  have b1 := h1.2.1
  have b2 := h2.2.1
  refine ⟨by omega, by omega, fun o' a' h' env stop l res hv he hl hr => ?_⟩
  refine h1.2.2 o' a' (fun i z1 z2 => h' i z1 (by omega)) env stop l res hv (by omega) (by omega) ?_
  unfold dn_op at hr
  cases hf : f env with
  | none => rw [hf] at hr; exact hr
  | some x =>
    rw [hf] at hr
    simp only at hr ⊢
    refine h2.2.2 o' a' (fun i z1 z2 => h' i (by omega) (by omega)) env stop (x :: l) res hv (by omega) (by rw [List.length_cons]; omega) ?_
    cases hg : g env with
    | none => rw [hg] at hr; exact hr
    | some y =>
      rw [hg] at hr
      simp only at hr ⊢
      have e1 := (h' e (by omega) (by omega)).1
      have e2 := z_st_op (o := o') (a := a') (env := env) (k := e) (x := y) (y := x) (l := l) (by rw [e1]; exact hk)
      rw [e1] at e2
      cases hj : w_jn (z_sg (o e)) x y with
      | none =>
        rw [hj] at hr e2
        simp only at hr
        subst hr
        exact z_ev_broken (by omega) e2
      | some v =>
        rw [hj] at hr e2
        exact z_ev_step (by omega) e2 hr
theorem CM_not (h1 : CM o a s e n f) (hk : o e = 27) : CM o a s (e + 1) n (dn_not f) := by
  have a1 := h1.1
  refine ⟨by omega, h1.2.1, fun o' a' h' env stop l res hv he hl hr => ?_⟩
  refine h1.2.2 o' a' (fun i z1 z2 => h' i z1 (by omega)) env stop l res hv (by omega) (by omega) ?_
  unfold dn_not at hr
  cases hf : f env with
  | none => rw [hf] at hr; exact hr
  | some x =>
    rw [hf] at hr
    simp only [Option.map_some] at hr ⊢
    have e1 := (h' e (by omega) (by omega)).1
    exact z_ev_step (by omega) (z_st_not (by rw [e1]; exact hk)) hr
/-- only 0 and 1 are answered -/
def dn_b (f : dn_T) : Prop := ∀ env v, ev_b env → f env = some v → v = 0 ∨ v = 1
theorem CM_and (h1 : CM o a s m n1 f) (hk : o m = 28) (he : a m = e) (h2 : CM o a (m + 1) e n2 g) : CM o a s e (n1 + n2) (dn_and f g) := by
  have a1 := h1.1
  have a2 := h2.1
  have b1 := h1.2.1
  have b2 := h2.2.1
  refine ⟨by omega, by omega, fun o' a' h' env stop l res hv hs hl hr => ?_⟩
  refine h1.2.2 o' a' (fun i z1 z2 => h' i z1 (by omega)) env stop l res hv (by omega) (by omega) ?_
  unfold dn_and at hr
  cases hf : f env with
  | none => rw [hf] at hr; exact hr
  | some x =>
    rw [hf] at hr
    simp only at hr ⊢
    obtain ⟨e1, e2⟩ := h' m (by omega) (by omega)
    have e3 := z_st_j (o := o') (a := a') (env := env) (k := m) (x := x) (l := l) (by rw [e1]; omega)
    rw [e1, hk, if_pos rfl] at e3
    by_cases hx : x = 0
    · rw [if_pos hx] at e3 hr
      refine z_ev_step (by omega) e3 ?_
      simp only
      rw [e2, he]
      exact hr
    · rw [if_neg hx] at e3 hr
      refine z_ev_step (by omega) e3 ?_
      exact h2.2.2 o' a' (fun i z1 z2 => h' i (by omega) (by omega)) env stop l res hv (by omega) (by omega) hr
theorem CM_or (hb : dn_b f) (h1 : CM o a s m n1 f) (hk : o m = 29) (he : a m = e) (h2 : CM o a (m + 1) e n2 g) : CM o a s e (n1 + n2) (dn_or f g) := by
  have a1 := h1.1
  have a2 := h2.1
  have b1 := h1.2.1
  have b2 := h2.2.1
  refine ⟨by omega, by omega, fun o' a' h' env stop l res hv hs hl hr => ?_⟩
  refine h1.2.2 o' a' (fun i z1 z2 => h' i z1 (by omega)) env stop l res hv (by omega) (by omega) ?_
  unfold dn_or at hr
  cases hf : f env with
  | none => rw [hf] at hr; exact hr
  | some x =>
    have hb := hb env x hv hf
    rw [hf] at hr
    simp only at hr ⊢
    obtain ⟨e1, e2⟩ := h' m (by omega) (by omega)
    have e3 := z_st_j (o := o') (a := a') (env := env) (k := m) (x := x) (l := l) (by rw [e1]; omega)
    rw [e1, hk, if_neg (show ¬ ((29 : Nat) = 28) by decide)] at e3
    by_cases hx : x = 0
    · rw [if_neg (show ¬ x = 1 by rw [hx]; decide)] at e3
      rw [if_pos hx] at hr
      refine z_ev_step (by omega) e3 ?_
      exact h2.2.2 o' a' (fun i z1 z2 => h' i (by omega) (by omega)) env stop l res hv (by omega) (by omega) hr
    · rw [if_pos (show x = 1 from hb.resolve_left hx)] at e3
      rw [if_neg hx] at hr
      refine z_ev_step (by omega) e3 ?_
      simp only
      rw [e2, he]
      exact hr
theorem CM.all (h : CM o a s e n f) (hn : n ≤ 400) (env : Nat → Int32) (hv : ev_b env) : z_ev o a env e s [] ((f env).map fun v => [v]) := by
  refine h.2.2 o a (fun _ _ _ => ⟨rfl, rfl⟩) env e [] _ hv (Nat.le_refl _) (by simpa using hn) ?_
  cases f env with
  | none => rfl
  | some v => exact z_ev_end (Nat.le_refl _)
end Zev
/-! the model's own: reckon, reckonAll -/
def md_sq (M : md_T) (k : Nat) (f : Nat → Int64) : md_T := (M.1, M.2.1, M.2.2.1, fun j => if j = k then f else M.2.2.2 j)
def zM (M : md_T) (b : Int32) (q : Nat → Int64) : md_T := md_ui (md_sq M 26 q) 27 b
section Zrk
variable {d i n k stop : Nat} {h t : ms_S} {M : md_T} {b : Int32} {q : Nat → Int64} {o a : Nat → Nat} {env : Nat → Int32}
theorem zM_q : md_q (zM M b q) 26 = q := by
  funext j
  show (if 26 = 26 then q else M.2.2.2 26) j = q j
  rw [if_pos rfl]
theorem zM_25 : md_q (zM M b q) 25 = md_q M 25 := by
  funext j
  show (if 25 = 26 then q else M.2.2.2 25) j = _
  rw [if_neg (by decide)]
  rfl
theorem zM_a : md_a (zM M b q) = md_a M := rfl
theorem zM_b : md_i (zM M b q) 27 = b := by
  show (if 27 = 27 then b else M.1 27) = b
  rw [if_pos rfl]
theorem zM_uq {j : Nat} {x : Int64} : md_uq (zM M b q) 26 j x = zM M b (vp_updL q j x) := by
  unfold md_uq zM md_sq md_ui
  simp only [Prod.mk.injEq, true_and]
  funext y
  by_cases hy : y = 26
  · simp only [hy, if_true]
  · simp only [hy, if_false]
theorem zM_ui {x : Int32} : md_ui (zM M b q) 27 x = zM M x q := by
  unfold zM md_ui
  simp only [Prod.mk.injEq, and_true]
  funext y
  by_cases hy : y = 27
  · simp only [hy, if_true]
  · simp only [hy, if_false]
theorem c9_textAt {v : Int32} {g : ms_S} : ms_Cl (d + 1) 199 [.int v] g (some (.int (946 + 898 * v))) g := m_X9_textAt (Nat.le_refl _) (Nat.le_refl _) (b_X9_textAt_0 ⟨rfl, rfl⟩)
theorem ix_tx : ((946 + 898 * nI i) + 98) + 2 * nI k = nI (946 + 898 * i + 98 + 2 * k) := by
  show ((nI 946 + nI 898 * nI i) + nI 98) + nI 2 * nI k = _
  rw [nI_mul, nI_mul, ms_p1, ms_p1, ms_p1]
def z_v (o : Nat) (x y : Int64) : Int64 := if o = 23 ∧ y = 0 then 0 else w_op (z_sg o) x y
theorem c9_reckon {o : Nat} {x y : Int64} (ho : 20 ≤ o ∧ o < 27) : ms_Cl (d + 1) 202 [.ref h.length, .int (nI o), .long x, .long y] (ms_m h (zM M 0 q) t) (some (.long (z_v o x y))) (ms_m h (zM M (if o = 23 ∧ y = 0 then 1 else 0) q) t) := by
  refine m_X9_reckon ms_m_l ms_m_t ⟨_, ms_m_0⟩ (b_X9_reckon_0 (Q := ms_lf _ _) ?_)
  have c : ∀ k : Nat, k < 2 ^ 31 → ((nI o = nI k) ↔ o = k) := fun k hk => Iff.of_eq (ms_nI_eq (by omega) hk)
  by_cases h1 : o = 20
  · subst h1
    exact ms_yes rfl ⟨rfl, rfl⟩
  refine ms_no (mt (c 20 (by decide)).mp h1) ?_
  by_cases h2 : o = 21
  · subst h2
    exact ms_yes rfl ⟨rfl, rfl⟩
  refine ms_no (mt (c 21 (by decide)).mp h2) ?_
  by_cases h3 : o = 22
  · subst h3
    exact ms_yes rfl ⟨rfl, rfl⟩
  refine ms_no (mt (c 22 (by decide)).mp h3) ?_
  by_cases h4 : o = 23
  · subst h4
    refine ms_yes rfl ?_
    by_cases hy : y = 0
    · rw [show z_v 23 x y = 0 from if_pos ⟨rfl, hy⟩, show (if (23 : Nat) = 23 ∧ y = 0 then (1 : Int32) else 0) = 1 from if_pos ⟨rfl, hy⟩]
      refine ms_yes ((lg_cmp_eq _ _).mpr hy) ?_
      simp only [ms_oR_e, ms_oI_e, ms_oL_e, mm_f27, mm_p27, zM_ui, zM_b]
      exact ⟨Or.inr trivial, ms_no (by decide) ⟨rfl, rfl⟩⟩
    · rw [show z_v 23 x y = x / y from if_neg (fun z => hy z.2), show (if (23 : Nat) = 23 ∧ y = 0 then (1 : Int32) else 0) = 0 from if_neg (fun z => hy z.2)]
      refine ms_no (mt (lg_cmp_eq _ _).mp hy) ?_
      simp only [ms_oR_e, ms_oI_e, ms_oL_e, mm_f27, mm_p27, zM_ui, zM_b]
      exact ⟨Or.inl trivial, ms_yes trivial ⟨hy, rfl, rfl⟩⟩
  refine ms_no (mt (c 23 (by decide)).mp h4) ?_
  have hv : z_v o x y = w_op (z_sg o) x y := if_neg (fun z => h4 z.1)
  rw [show (if o = 23 ∧ y = 0 then (1 : Int32) else 0) = 0 from if_neg (fun z => h4 z.1), hv]
  by_cases h5 : o = 24
  · subst h5
    refine ms_yes rfl ?_
    rw [show w_op (z_sg 24) x y = if x < y then 1 else 0 from rfl]
    by_cases h6 : x < y
    · rw [if_pos h6]
      exact ms_no (fun z => absurd ((lg_cmp_ge _ _).mp z) (Int64.not_le.mpr h6)) ⟨rfl, rfl⟩
    · rw [if_neg h6]
      exact ms_yes ((lg_cmp_ge _ _).mpr (Int64.not_lt.mp h6)) ⟨rfl, rfl⟩
  refine ms_no (mt (c 24 (by decide)).mp h5) ?_
  by_cases h6 : o = 25
  · subst h6
    refine ms_yes rfl ?_
    rw [show w_op (z_sg 25) x y = if y < x then 1 else 0 from rfl]
    by_cases h7 : y < x
    · rw [if_pos h7]
      exact ms_no (fun z => absurd ((lg_cmp_le _ _).mp z) (Int64.not_le.mpr h7)) ⟨rfl, rfl⟩
    · rw [if_neg h7]
      exact ms_yes ((lg_cmp_le _ _).mpr (Int64.not_lt.mp h7)) ⟨rfl, rfl⟩
  refine ms_no (mt (c 25 (by decide)).mp h6) ?_
  have h8 : o = 26 := by omega
  subst h8
  rw [show w_op (z_sg 26) x y = if x = y then 1 else 0 from rfl]
  by_cases h7 : x = y
  · rw [if_pos h7]
    exact ms_yes ((lg_cmp_eq _ _).mpr h7) ⟨rfl, rfl⟩
  · rw [if_neg h7]
    exact ms_no (mt (lg_cmp_eq _ _).mp h7) ⟨rfl, rfl⟩
def z_bot (l : List Int64) : Int64 := l.getLast?.getD 0
/-- a text's code in the row -/
def mt_w (r : Nat → Int32) (i n : Nat) (o a : Nat → Nat) : Prop := n ≤ 400 ∧ ∀ k, k < n → r (946 + 898 * i + 98 + 2 * k) = nI (o k) ∧ r (946 + 898 * i + 98 + 2 * k + 1) = nI (a k) ∧ o k < 30 ∧ a k < 2 ^ 30
def z_R (h : ms_S) (M : md_T) (t : ms_S) (res : Option (List Int64)) (r : Option Value) (g' : ms_S) : Prop := ∃ b q v, g' = ms_m h (md_ul (zM M b q) 28 v) t ∧ r = none ∧ match res with
  | none => b = 1
  | some l => b = 0 ∧ v = z_bot l
theorem z_jn_v {o : Nat} {x y : Int64} (ho : 20 ≤ o ∧ o < 27) : w_jn (z_sg o) x y = if o = 23 ∧ y = 0 then none else if 1000000000 < z_v o x y then none else if z_v o x y < -1000000000 then none else some (z_v o x y) := by
  unfold w_jn z_v
  have e : (z_sg o = 47 ∧ y = 0) = (o = 23 ∧ y = 0) := by
    have : z_sg o = 47 ↔ o = 23 := by
      unfold z_sg
      repeat' split
      all_goals omega
    rw [this]
  simp only [e]
  by_cases hz : o = 23 ∧ y = 0
  · simp only [if_pos hz]
  · simp only [if_neg hz]
end Zrk
