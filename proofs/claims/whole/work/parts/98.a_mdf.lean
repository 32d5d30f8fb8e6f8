/-! THE MODEL: births, drift, weight, run; written by wip/whole/mdl.py from a_mdf.txt -/
section Mdf
variable {d i j k n p o e f u v x y s r c day m : Nat} {h t : ms_S} {M N L : md_T} {S' S2 : Nat → Bool} {A : ab_T} {S : List Nat} {P : Nat → Bool} {q w : Int32} {l : List Nat}
theorem an_nth_app (hl : l.length < 2 ^ 30) {k : Int32} : an_nth (l ++ [e]) k = if nI l.length = k then nI e else an_nth l k := by
  unfold an_nth
  rw [List.length_append, List.length_singleton]
  by_cases hk : nI l.length = k
  · rw [if_pos hk, ← hk, ms_ix_nI (by omega), decide_eq_true (Nat.lt_succ_self _), if_pos rfl, ms_nc (by omega), List.getD_eq_getElem?_getD, List.getElem?_append_right (Nat.le_refl _), Nat.sub_self]
    rfl
  · rw [if_neg hk]
    cases hx : ms_ix l.length k with
    | true =>
      obtain ⟨m, hm, rfl, m2, _⟩ := ms_ix_k hx
      rw [ms_ix_nI (by omega), decide_eq_true (by omega), if_pos rfl, if_pos rfl, ms_nc (by omega), List.getD_eq_getElem?_getD, List.getD_eq_getElem?_getD, List.getElem?_append_left hm]
    | false =>
      cases hx2 : ms_ix (l.length + 1) k with
      | false => rfl
      | true =>
        obtain ⟨m, hm, rfl, m2, _⟩ := ms_ix_k hx2
        rw [ms_ix_nI (by omega), decide_eq_false_iff_not] at hx
        exact absurd (by rw [show m = l.length by omega]) hk
theorem an_nth_0 {k : Int32} : an_nth [] k = -1 := by
  unfold an_nth
  cases hx : ms_ix ([] : List Nat).length k with
  | false => rfl
  | true =>
    obtain ⟨m, hm, _⟩ := ms_ix_k hx
    exact absurd hm (Nat.not_lt_zero m)
theorem an_nth_m1 : an_nth l (-1) = -1 := by
  unfold an_nth
  rw [ms_ix_lt0 (by decide)]
  rfl
theorem n_thI (W : MX A M) {v : Int32} : ms_Cl (d + 2) 146 [.ref h.length, .int v] (ms_m h M t) (some (.int (ms_bi (ms_ix (ab_t A) v)))) (ms_m h M t) := c9_isThing W.n0 (by have := W.1.1; omega)
theorem n_paI (W : MX A M) {v : Int32} : ms_Cl (d + 2) 147 [.ref h.length, .int v] (ms_m h M t) (some (.int (ms_bi (ms_ix (ab_p A) v)))) (ms_m h M t) := c9_isPaper W.n1 (by have := W.1.1; omega)
theorem n_births (W : MX A M) {i k : Int32} : ms_H' (d + 11) 242 [.ref h.length, .int i, .int q, .int k] (ms_m h M t) (gX h M t (an_births A i q k)) := by
  refine mx_m (fun a b c => m_X9_births a b ⟨_, ms_m_0⟩ c) gQ_l (b_X9_births_0 ?_)
  simp only [ms_oR_e, ms_oI_e, ms_oL_e, mm_f0, mm_p0]
  have w0 : MX A (md_ui M 0 0) := W
  have f0 : md_fr gA M (md_ui M 0 0) := mr_i mr_0 rfl
  have w1 := W.1.1
  unfold an_births
  refine ms_c1_i (n_thI w0) (ms_ifT (fun hg => ?_) (fun hg => ?_))
  · rw [hg]
    exact ⟨_, f0, rfl, rfl⟩
  obtain ⟨m, hm, rfl, e2, _⟩ := ms_ix_k hg
  rw [hg, e2, Bool.true_and]
  refine ms_c1_i (n_isGhost w0 hm) (ms_ifT (fun hg2 => ?_) (fun hg2 => ?_))
  · rw [hg2]
    exact ⟨_, f0, rfl, rfl⟩
  rw [hg2, Bool.true_and]
  refine ms_c1_i (n_day _) (ms_ifT (fun hg3 => ?_) (fun hg3 => ?_))
  · rw [hg3]
    exact ⟨_, f0, rfl, rfl⟩
  rw [hg3, if_pos rfl]
  obtain ⟨j, hj, rfl, f2, _⟩ := ms_ix_k hg3
  rw [f2]
  refine my_n0 (n_findTree (d := d) w0 hj) (fun N hf hT => ?_)
  have fN : md_fr gA M N := mr_t f0 hf
  have wN := W.fr fN rfl
  unfold ab_bl
  generalize hPd : (fun e => decide (ab_en A e 1 = m) && (ab_es A e j && (ab_or A e j).isNone)) = P
  have hPv : ∀ e, P e = (decide (ab_en A e 1 = m) && (ab_es A e j && (ab_or A e j).isNone)) := fun e => by rw [← hPd]
  have hlen : ∀ e, ((List.range e).filter P).length ≤ e := fun e => by
    have := List.length_filter_le P (List.range e)
    rw [List.length_range] at this
    exact this
  suffices H : ∀ r e, e + r = ab_e A → ms_V cd_X9_births none 1 (ms_Cl (d + 10)) (gX h M t (if k = -1 then nI ((List.range (ab_e A)).filter P).length else an_nth ((List.range (ab_e A)).filter P) k)) 44 [(0, .ref h.length), (1, .int (nI m)), (3, .int k), (4, .int (nI ((List.range e).filter P).length)), (5, .int (an_nth ((List.range e).filter P) k)), (6, .int (nI e))] [] (ms_m h N t) by
    have H0 := H (ab_e A) 0 (by omega)
    rw [show (List.range 0).filter P = [] from rfl, an_nth_0] at H0
    exact H0
  intro r
  induction r with
  | zero =>
    intro e he
    refine b_X9_births_44 (ms_oR_i mm_f3 (n_ec wN ?_))
    refine ms_yes ((ms_nle (by omega) (by omega)).mpr (by omega)) ?_
    rw [show ab_e A = e by omega]
    refine ms_ite2 (fun z => ?_) (fun z => ?_)
    · rw [if_pos z]
      exact ⟨N, fN, rfl, rfl⟩
    · rw [if_neg z]
      exact ⟨N, fN, rfl, rfl⟩
  | succ r ih =>
    intro e he
    have H := ih (e + 1) (by omega)
    have ht := W.1.2.2.2.1 e 1
    have hl := hlen e
    refine b_X9_births_44 (ms_oR_i mm_f3 (n_ec wN ?_))
    refine ms_no (fun z => by rw [ms_nle (by omega) (by omega)] at z; omega) (ms_c1_i (n_thingOf wN (by omega)) ?_)
    rw [show nI e + 1 = nI (e + 1) from ms_p1 1]
    have hfs : (List.range (e + 1)).filter P = (List.range e).filter P ++ (if P e then [e] else []) := filt_s
    have skip : P e = false → ms_V cd_X9_births none 1 (ms_Cl (d + 10)) (gX h M t (if k = -1 then nI ((List.range (ab_e A)).filter P).length else an_nth ((List.range (ab_e A)).filter P) k)) 44 [(0, .ref h.length), (1, .int (nI m)), (3, .int k), (4, .int (nI ((List.range e).filter P).length)), (5, .int (an_nth ((List.range e).filter P) k)), (6, .int (nI (e + 1)))] [] (ms_m h N t) := by
      intro hno
      rw [hno] at hfs
      simp only [Bool.false_eq_true, if_false, List.append_nil] at hfs
      rw [hfs] at H
      exact H
    refine ms_ite2 (fun z => ?_) (fun z => ?_)
    · rw [ms_nI_eq (by omega) (by omega)] at z
      refine ms_oR_i mm_f40 ?_
      rw [mm_r40]
      refine ⟨ms_in (by omega) (by decide), ?_⟩
      rw [ms_nc (by omega), hT.1 e (by omega)]
      refine ms_ite2 (fun z2 => ?_) (fun z2 => ?_)
      · have hPe : P e = true := by
          rw [hPv, decide_eq_true z, Bool.true_and]
          by_cases hes : ab_es A e j = true
          · rw [if_pos hes] at z2
            rw [hes, Bool.true_and]
            cases ho : ab_or A e j with
            | none => rfl
            | some f =>
              rw [ho] at z2
              have := (ab_or_in (by omega) ho).1
              exact absurd z2 (nI_m1 (x := f) (by omega))
          · rw [if_neg hes] at z2
            exact absurd z2 (by decide)
        rw [hPe, if_pos rfl] at hfs
        rw [hfs, an_nth_app (by omega), List.length_append, List.length_singleton] at H
        rw [show nI ((List.range e).filter P).length + 1 = nI (((List.range e).filter P).length + 1) from ms_p1 1]
        refine ms_ite2 (fun z3 => ?_) (fun z3 => ?_)
        · rw [if_pos z3] at H
          exact H
        · rw [if_neg z3] at H
          exact H
      · refine skip ?_
        rw [hPv]
        by_cases hes : ab_es A e j = true
        · rw [if_pos hes] at z2
          cases ho : ab_or A e j with
          | none => rw [ho] at z2; exact absurd rfl z2
          | some f => simp
        · rw [show ab_es A e j = false by simpa using hes, Bool.false_and, Bool.and_false]
    · rw [ms_nI_eq (by omega) (by omega)] at z
      refine skip ?_
      rw [hPv, decide_eq_false z, Bool.false_and]
theorem n_drift (W : MX A M) {e : Int32} : ms_H' (d + 11) 243 [.ref h.length, .int e, .int q] (ms_m h M t) (gX h M t (an_drift A e q)) := by
  refine mx_m (fun a b c => m_X9_drift a b ⟨_, ms_m_0⟩ c) gQ_l (b_X9_drift_0 ?_)
  simp only [mm_p0]
  have w0 : MX A (md_ui M 0 0) := W
  have f0 : md_fr gA M (md_ui M 0 0) := mr_i mr_0 rfl
  have w1 := W.1.1
  unfold an_drift an_es
  refine ms_c1_i (n_entI w0) (ms_ifT (fun hg => ?_) (fun hg => ?_))
  · rw [hg]
    exact ⟨_, f0, rfl, rfl⟩
  rw [hg, Bool.true_and]
  refine ms_c1_i (n_day _) (ms_ifT (fun hg2 => ?_) (fun hg2 => ?_))
  · rw [hg2]
    exact ⟨_, f0, rfl, rfl⟩
  rw [hg2, Bool.true_and]
  obtain ⟨i, hi, rfl, e2, _⟩ := ms_ix_k hg
  obtain ⟨j, hj, rfl, f2, _⟩ := ms_ix_k hg2
  rw [e2, f2]
  refine my_n0 (n_findTree (d := d) w0 hj) (fun N hf hT => ?_)
  have fN : md_fr gA M N := mr_t f0 hf
  have wN := W.fr fN rfl
  have hth := (W.1.2.2.2.2.1 i hi).2
  refine ms_oR_i mm_f40 ?_
  rw [mm_r40]
  refine ⟨ms_in (by omega) (by decide), ?_⟩
  rw [ms_nc (by omega), hT.1 i hi]
  by_cases hes : ab_es A i j = true
  · rw [if_pos hes, if_pos hes]
    have h40 : md_a N 40 i = or_I (ab_or A i j) := by rw [hT.1 i hi, if_pos hes]
    have hne2 : or_I (ab_or A i j) ≠ -2 := by
      cases ho : ab_or A i j with
      | none => decide
      | some g =>
        have hg := (ab_or_in hi ho).1
        intro z
        have := ms_nI_0 (n := g) (by omega)
        rw [show nI g = -2 from z] at this
        exact absurd this (by decide)
    refine ms_no hne2 (ms_oR_i mm_f3 (ms_c1_i n_entryAt ?_))
    rw [show nI (106 + 7 * i) + 6 = nI (106 + 7 * i + 6) from ms_p1 6]
    refine n_rd (by omega) (wN.2.2.2.2.1 i 6 hi (by decide)) (ms_oR_i mm_f40 ?_)
    rw [mm_r40]
    refine ⟨ms_in (by omega) (by decide), ?_⟩
    rw [ms_nc (by omega), h40]
    cases ho : ab_or A i j with
    | none =>
      refine ms_yes rfl (ms_c1_i (n_thingOf wN hi) (ms_c1_i (n_isGhost wN hth) (ms_ifT (fun hg => ?_) (fun hg => ?_))))
      · refine ms_oR_i mm_f3 (ms_c1_i (n_thingOf wN hi) (ms_c1_i n_thingAt ?_))
        rw [show nI (10 + 6 * ab_en A i 1) + 4 = nI (10 + 6 * ab_en A i 1 + 4) from ms_p1 4]
        refine n_rd (by omega) (wN.2.2.1 _ 4 hth (by decide)) ⟨N, fN, rfl, ?_⟩
        simp only [hg]
        rfl
      · refine ⟨N, fN, rfl, ?_⟩
        simp only [hg]
        rfl
    | some g =>
      have hg := (ab_or_in hi ho).1
      refine ms_no (nI_m1 (x := g) (by omega)) (ms_oR_i mm_f3 (ms_oR_i mm_f40 ?_))
      rw [mm_r40]
      refine ⟨ms_in (by omega) (by decide), ?_⟩
      rw [ms_nc (by omega), h40, ho]
      refine ms_c1_i (n_entryAt (i := g)) ?_
      rw [show nI (106 + 7 * g) + 6 = nI (106 + 7 * g + 6) from ms_p1 6]
      exact n_rd (by omega) (wN.2.2.2.2.1 g 6 hg (by decide)) ⟨N, fN, rfl, rfl⟩
  · rw [if_neg hes, if_neg hes]
    exact ms_yes rfl ⟨N, fN, rfl, rfl⟩
theorem n_weight (W : MX A M) {e : Int32} : ms_H' (d + 11) 244 [.ref h.length, .int e, .int q] (ms_m h M t) (gX h M t (an_weight A e q)) := by
  refine mx_m (fun a b c => m_X9_weight a b ⟨_, ms_m_0⟩ c) gQ_l (b_X9_weight_0 ?_)
  simp only [mm_p0]
  have w0 : MX A (md_ui M 0 0) := W
  have f0 : md_fr gA M (md_ui M 0 0) := mr_i mr_0 rfl
  have w1 := W.1.1
  unfold an_weight an_es
  refine ms_c1_i (n_entI w0) (ms_ifT (fun hg => ?_) (fun hg => ?_))
  · rw [hg]
    exact ⟨_, f0, rfl, rfl⟩
  rw [hg, Bool.true_and]
  refine ms_c1_i (n_day _) (ms_ifT (fun hg2 => ?_) (fun hg2 => ?_))
  · rw [hg2]
    exact ⟨_, f0, rfl, rfl⟩
  rw [hg2, Bool.true_and]
  obtain ⟨i, hi, rfl, e2, _⟩ := ms_ix_k hg
  obtain ⟨j, hj, rfl, f2, _⟩ := ms_ix_k hg2
  rw [e2, f2]
  refine my_n0 (n_findTree (d := d) w0 hj) (fun N hf hT => ?_)
  have fN : md_fr gA M N := mr_t f0 hf
  have wN := W.fr fN rfl
  refine ms_oR_i mm_f40 ?_
  rw [mm_r40]
  refine ⟨ms_in (by omega) (by decide), ?_⟩
  rw [ms_nc (by omega), hT.1 i hi]
  by_cases hes : ab_es A i j = true
  · rw [if_pos hes, if_pos hes]
    have hne2 : or_I (ab_or A i j) ≠ -2 := by
      cases ho : ab_or A i j with
      | none => decide
      | some g =>
        have hg := (ab_or_in hi ho).1
        intro z
        have := ms_nI_0 (n := g) (by omega)
        rw [show nI g = -2 from z] at this
        exact absurd this (by decide)
    refine ms_no hne2 ?_
    generalize hF : (fun o => if ab_es A o j && ab_cf A j i 16 (ab_or A o j) then 1 else 0) = F
    have hFv : ∀ o, F o = if ab_es A o j && ab_cf A j i 16 (ab_or A o j) then 1 else 0 := fun o => by rw [← hF]
    suffices H : ∀ r o, o + r = ab_e A → ms_V cd_X9_weight none 1 (ms_Cl (d + 10)) (gX h M t (nI (sm F (ab_e A)))) 45 [(0, .ref h.length), (1, .int (nI i)), (3, .int (nI (sm F o))), (4, .int (nI o))] [] (ms_m h N t) from H (ab_e A) 0 (by omega)
    intro r
    induction r with
    | zero =>
      intro o ho
      refine b_X9_weight_45 (ms_oR_i mm_f3 (n_ec wN ?_))
      refine ms_yes ((ms_nle (by omega) (by omega)).mpr (by omega)) ⟨N, fN, rfl, ?_⟩
      rw [show ab_e A = o by omega]
    | succ r ih =>
      intro o ho
      have H := ih (o + 1) (by omega)
      rw [show sm F (o + 1) = sm F o + F o from rfl, hFv] at H
      have add : ∀ v, nI v + 0 = nI (v + 0) ∧ nI v + 1 = nI (v + 1) := fun v => ⟨ms_p1 0, ms_p1 1⟩
      generalize sm F o = T at *
      have chain : ∀ (n : Nat) (x : Option Nat) (bb : Bool), (∀ f, x = some f → f < ab_e A ∧ ab_es A f j = true ∧ ab_rk A (ab_en A f 0) < n) → bb = ab_cf A j i n x → ms_V cd_X9_weight none 1 (ms_Cl (d + 10)) (gX h M t (nI (sm F (ab_e A)))) 45 [(0, .ref h.length), (1, .int (nI i)), (3, .int (nI (T + if bb = true then 1 else 0))), (4, .int (nI (o + 1)))] [] (ms_m h N t) → ms_V cd_X9_weight none 1 (ms_Cl (d + 10)) (gX h M t (nI (sm F (ab_e A)))) 65 [(0, .ref h.length), (1, .int (nI i)), (3, .int (nI T)), (4, .int (nI o)), (5, .int (or_I x))] [] (ms_m h N t) := by
        intro n
        induction n with
        | zero =>
          intro x bb hx hb HH
          cases x with
          | some f => exact absurd (hx f rfl).2.2 (Nat.not_lt_zero _)
          | none =>
            rw [show bb = false from hb] at HH
            refine b_X9_weight_65 (ms_yes (by decide : (-1 : Int32) < 0) (ms_no (fun z => nI_m1 (x := i) (by omega) z.symm) ?_))
            rw [show nI o + 1 = nI (o + 1) from ms_p1 1, (add T).1]
            exact HH
        | succ n ihn =>
          intro x bb hx hb HH
          cases x with
          | none =>
            rw [show bb = false from hb] at HH
            refine b_X9_weight_65 (ms_yes (by decide : (-1 : Int32) < 0) (ms_no (fun z => nI_m1 (x := i) (by omega) z.symm) ?_))
            rw [show nI o + 1 = nI (o + 1) from ms_p1 1, (add T).1]
            exact HH
          | some f =>
            obtain ⟨h1, h2, h3⟩ := hx f rfl
            refine b_X9_weight_65 (ms_no (Int32.not_lt.mpr (ms_nI_0 (n := f) (by omega))) ?_)
            rw [show nI o + 1 = nI (o + 1) from ms_p1 1, (add T).2]
            refine ms_ite2 (fun z => ms_yes z ?_) (fun z => ?_)
            · rw [show or_I (some f) = nI f from rfl, ms_nI_eq (by omega) (by omega)] at z
              rw [show bb = true by rw [hb, ab_cf, if_pos z]] at HH
              exact HH
            · rw [show or_I (some f) = nI f from rfl, ms_nI_eq (by omega) (by omega)] at z
              refine ms_oR_i mm_f40 ?_
              rw [show or_I (some f) = nI f from rfl, mm_r40]
              refine ⟨ms_in (by omega) (by decide), ?_⟩
              rw [ms_nc (by omega), hT.1 f h1, if_pos h2]
              refine ihn (ab_or A f j) bb (fun g hg => ?_) (by rw [hb, ab_cf, if_neg z]) HH
              obtain ⟨g1, g2, g3, g4⟩ := ab_or_in h1 hg
              have := ab_rk_lt (W.1.2.2.2.2.1 g g1).1 g4
              exact ⟨g1, g3, by omega⟩
      refine b_X9_weight_45 (ms_oR_i mm_f3 (n_ec wN ?_))
      refine ms_no (fun z => by rw [ms_nle (by omega) (by omega)] at z; omega) (ms_oR_i mm_f40 ?_)
      rw [mm_r40]
      refine ⟨ms_in (by omega) (by decide), ?_⟩
      rw [ms_nc (by omega), hT.1 o (by omega)]
      by_cases ho2 : ab_es A o j = true
      · rw [if_pos ho2]
        rw [ho2, Bool.true_and] at H
        refine chain 16 (ab_or A o j) _ (fun g hg => ?_) rfl H
        obtain ⟨g1, g2, g3, g4⟩ := ab_or_in (by omega) hg
        exact ⟨g1, g3, ab_rk_le W.1 (W.1.2.2.2.2.1 g g1).1⟩
      · rw [if_neg ho2]
        rw [show ab_es A o j = false by simpa using ho2, Bool.false_and] at H
        refine b_X9_weight_65 (ms_yes (by decide) (ms_no (fun z => ?_) ?_))
        · have := ms_nI_0 (n := i) (by omega)
          rw [← z] at this
          exact absurd this (by decide)
        rw [show nI o + 1 = nI (o + 1) from ms_p1 1, (add T).1]
        exact H
  · rw [if_neg hes, if_neg hes]
    exact ms_yes rfl ⟨N, fN, rfl, rfl⟩
theorem cnt_pl (W : MX A M) (hp : p < 2 ^ 31) : ∀ n, n ≤ ab_e A → md_cnt M (nI p) n = (plN A p n).length
  | 0, _ => rfl
  | n + 1, hn => by
    have ih := cnt_pl W hp n (by omega)
    have t0 := W.1.2.2.2.1 n 0
    have e0 : md_a M 3 (106 + 7 * n) = nI (ab_en A n 0) := W.2.2.2.2.1 n 0 (by omega) (by decide)
    rw [md_cnt, ih, e0]
    unfold plN
    rw [filt_s, List.length_append]
    by_cases hc : ab_en A n 0 = p
    · rw [if_pos (by rw [hc]), decide_eq_true hc]
      rfl
    · rw [if_neg (fun z => hc (by rwa [ms_nI_eq (by omega) hp] at z)), decide_eq_false hc]
      rfl
theorem nth_pl (W : MX A M) (hp : p < 2 ^ 31) {k : Int32} : ∀ n, n ≤ ab_e A → md_nth M (nI p) k n = an_nth (plN A p n) k
  | 0, _ => an_nth_0.symm
  | n + 1, hn => by
    have ih := nth_pl W hp (k := k) n (by omega)
    have t0 := W.1.2.2.2.1 n 0
    have w1 := W.1.1
    have e0 : md_a M 3 (106 + 7 * n) = nI (ab_en A n 0) := W.2.2.2.2.1 n 0 (by omega) (by decide)
    have hl : (plN A p n).length ≤ n := by
      have := List.length_filter_le (fun e => decide (ab_en A e 0 = p)) (List.range n)
      rw [List.length_range] at this
      exact this
    rw [md_nth, ih, e0, cnt_pl W hp n (by omega)]
    have hfs : plN A p (n + 1) = plN A p n ++ (if decide (ab_en A n 0 = p) then [n] else []) := filt_s
    rw [hfs]
    by_cases hc : ab_en A n 0 = p
    · rw [decide_eq_true hc, if_pos rfl, an_nth_app (by omega)]
      by_cases hk : nI (plN A p n).length = k
      · rw [if_pos ⟨by rw [hc], hk⟩, if_pos hk]
      · rw [if_neg (fun z => hk z.2), if_neg hk]
    · rw [decide_eq_false hc]
      simp only [Bool.false_eq_true, if_false, List.append_nil]
      exact if_neg (fun z => hc (by have := z.1; rwa [ms_nI_eq (by omega) hp] at this))
theorem n_longOf (W : MX A M) (hp : p < 2 ^ 31) : ms_Cl (d + 3) 163 [.ref h.length, .int (nI p)] (ms_m h M t) (some (.int (nI (ab_l A p).length))) (ms_m h M t) := by
  have k := c9_longOf (d := d) (h := h) (t := t) (p := nI p) W.n2 W.1.1.2.2.1
  rw [cnt_pl W hp _ (Nat.le_refl _)] at k
  exact k
theorem n_entryOf (W : MX A M) (hp : p < 2 ^ 31) (hn : n < 2 ^ 31) (he : (ab_l A p)[n]? = some e) : ms_Cl (d + 3) 167 [.ref h.length, .int (nI p), .int (nI n)] (ms_m h M t) (some (.int (nI e))) (ms_m h M t) := by
  have k := c9_entryOf (d := d) (h := h) (t := t) (p := nI p) (i := nI n) W.n2 W.1.1.2.2.1
  obtain ⟨hl, _⟩ := List.getElem?_eq_some_iff.mp he
  have e2 : an_nth (plN A p (ab_e A)) (nI n) = nI e := by
    unfold an_nth
    rw [show plN A p (ab_e A) = ab_l A p from rfl, ms_ix_nI hn, decide_eq_true hl, if_pos rfl, ms_nc hn, List.getD_eq_getElem?_getD, he]
    rfl
  rw [nth_pl W hp _ (Nat.le_refl _), e2] at k
  exact k
theorem n_runFrom (W : MX A M) (hp : p < ab_p A) (ho : o < ab_p A) (hi : i < 2 ^ 30) (hj : j < 2 ^ 30) : ms_Cl (d + 4) 247 [.ref h.length, .int (nI p), .int (nI i), .int (nI o), .int (nI j)] (ms_m h M t) (some (.int (nI (ab_ru A p i o j 12 0)))) (ms_m h M t) := by
  have w1 := W.1.1
  have hn1 := W.1.2.2.2.2.2 p
  have hn2 := W.1.2.2.2.2.2 o
  refine m_X9_runFrom (Nat.le_refl _) (Nat.le_refl _) ⟨_, ms_m_0⟩ (b_X9_runFrom_0 (Q := ms_lf _ _) ?_)
  suffices H : ∀ r n, n + r = 12 → ms_V cd_X9_runFrom none 1 (ms_Cl (d + 3)) (ms_lf (some (.int (nI (ab_ru A p i o j r n)))) (ms_m h M t)) 3 [(0, .ref h.length), (1, .int (nI p)), (2, .int (nI i)), (3, .int (nI o)), (4, .int (nI j)), (5, .int (nI n))] [] (ms_m h M t) from H 12 0 rfl
  intro r
  induction r with
  | zero =>
    intro n hn
    refine b_X9_runFrom_3 (ms_c1_i (n_longOf W (by omega)) ?_)
    rw [ms_p1]
    exact ms_yes ((ms_nle (by omega) (by omega)).mpr (by omega)) ⟨rfl, rfl⟩
  | succ r ih =>
    intro n hn
    refine b_X9_runFrom_3 (ms_c1_i (n_longOf W (by omega)) ?_)
    rw [ms_p1, ms_p1, show nI n + 1 = nI (n + 1) from ms_p1 1]
    unfold ab_ru
    cases h1 : (ab_l A p)[i + n]? with
    | none => exact ms_yes ((ms_nle (by omega) (by omega)).mpr (List.getElem?_eq_none_iff.mp h1)) ⟨rfl, rfl⟩
    | some e =>
      obtain ⟨l1, _⟩ := List.getElem?_eq_some_iff.mp h1
      obtain ⟨he, _⟩ := ab_l_lt h1
      refine ms_no (fun z => by rw [ms_nle (by omega) (by omega)] at z; omega) (ms_c1_i (n_longOf W (by omega)) ?_)
      cases h2 : (ab_l A o)[j + n]? with
      | none => exact ms_yes ((ms_nle (by omega) (by omega)).mpr (List.getElem?_eq_none_iff.mp h2)) ⟨rfl, rfl⟩
      | some f =>
        obtain ⟨l2, _⟩ := List.getElem?_eq_some_iff.mp h2
        obtain ⟨hf, _⟩ := ab_l_lt h2
        have t1 := W.1.2.2.2.1 e 1
        have t2 := W.1.2.2.2.1 f 1
        refine ms_no (fun z => by rw [ms_nle (by omega) (by omega)] at z; omega) (ms_c1_i (n_entryOf W (by omega) (by omega) h1) (ms_c1_i (n_thingOf W he) (ms_c1_i (n_entryOf W (by omega) (by omega) h2) (ms_c1_i (n_thingOf W hf) ?_))))
        simp only
        refine ms_ite2 (fun z => ?_) (fun z => ?_)
        · rw [ms_nI_eq (by omega) (by omega)] at z
          rw [if_pos z]
          exact ih (n + 1) (by omega)
        · rw [ms_nI_eq (by omega) (by omega)] at z
          rw [if_neg z]
          exact ⟨rfl, rfl⟩
theorem n_run (W : MX A M) {a c : Int32} : ms_H' (d + 5) 248 [.ref h.length, .int a, .int c, .int w] (ms_m h M t) (gX h M t (an_run A a c w)) := by
  refine mx_m (fun a b c => m_X9_run a b ⟨_, ms_m_0⟩ c) gQ_l (b_X9_run_0 ?_)
  simp only [mm_p0]
  have w0 : MX A (md_ui M 0 0) := W
  have f0 : md_fr gA M (md_ui M 0 0) := mr_i mr_0 rfl
  have w1 := W.1.1
  unfold an_run
  have all1 : ∀ x : Int32, (if a = c then (-1 : Int32) else if (false : Bool) = true then x else -1) = -1 := fun x => by split <;> rfl
  refine ms_c1_i (n_paI w0) (ms_ifT (fun hg => ?_) (fun hg => ?_))
  · rw [hg, Bool.false_and, Bool.false_and, all1]
    exact ⟨_, f0, rfl, rfl⟩
  rw [hg, Bool.true_and]
  refine ms_c1_i (n_paI w0) (ms_ifT (fun hg2 => ?_) (fun hg2 => ?_))
  · rw [hg2, Bool.false_and, all1]
    exact ⟨_, f0, rfl, rfl⟩
  rw [hg2, Bool.true_and]
  refine ms_ite2 (fun z0 => ?_) (fun z0 => ?_)
  · rw [if_pos z0]
    exact ⟨_, f0, rfl, rfl⟩
  rw [if_neg z0]
  refine ms_c1_i (n_inK 1 (by decide) 1 (by decide) _) (ms_ifT (fun hg3 => ?_) (fun hg3 => ?_))
  · rw [hg3]
    exact ⟨_, f0, rfl, rfl⟩
  rw [hg3, if_pos rfl]
  obtain ⟨p, hp, rfl, e2, _⟩ := ms_ix_k hg
  obtain ⟨o, ho, rfl, f2, _⟩ := ms_ix_k hg2
  rw [e2, f2]
  have hn1 := W.1.2.2.2.2.2 p
  have hn2 := W.1.2.2.2.2.2 o
  suffices H : ∀ r i, i + r = (ab_l A p).length → ms_V cd_X9_run none 1 (ms_Cl (d + 4)) (gX h M t (if w = 0 then nI (ab_r1 A p o (ab_l A p).length).1 else (ab_r1 A p o (ab_l A p).length).2)) 47 [(0, .ref h.length), (1, .int (nI p)), (2, .int (nI o)), (3, .int w), (4, .int (nI (ab_r1 A p o i).1)), (5, .int (ab_r1 A p o i).2), (6, .int (nI i))] [] (ms_m h (md_ui M 0 0) t) from H (ab_l A p).length 0 (by omega)
  intro r
  induction r with
  | zero =>
    intro i hi
    refine b_X9_run_47 (ms_c1_i (n_longOf w0 (by omega)) ?_)
    refine ms_yes ((ms_nle (by omega) (by omega)).mpr (by omega)) ?_
    rw [show (ab_l A p).length = i by omega]
    refine ms_ite2 (fun z => ?_) (fun z => ?_)
    · rw [if_pos z]
      exact ⟨_, f0, rfl, rfl⟩
    · rw [if_neg z]
      exact ⟨_, f0, rfl, rfl⟩
  | succ r ih =>
    intro i hi
    refine b_X9_run_47 (ms_c1_i (n_longOf w0 (by omega)) ?_)
    refine ms_no (fun z => by rw [ms_nle (by omega) (by omega)] at z; omega) ?_
    have H2 : ∀ r2 j, j + r2 = (ab_l A o).length → ms_V cd_X9_run none 1 (ms_Cl (d + 4)) (gX h M t (if w = 0 then nI (ab_r1 A p o (ab_l A p).length).1 else (ab_r1 A p o (ab_l A p).length).2)) 60 [(0, .ref h.length), (1, .int (nI p)), (2, .int (nI o)), (3, .int w), (4, .int (nI (ab_r2 A p o i (ab_r1 A p o i) j).1)), (5, .int (ab_r2 A p o i (ab_r1 A p o i) j).2), (6, .int (nI i)), (7, .int (nI j))] [] (ms_m h (md_ui M 0 0) t) := by
      intro r2
      induction r2 with
      | zero =>
        intro j hj
        refine b_X9_run_60 (ms_c1_i (n_longOf w0 (by omega)) ?_)
        refine ms_yes ((ms_nle (by omega) (by omega)).mpr (by omega)) ?_
        have H := ih (i + 1) (by omega)
        rw [show ab_r1 A p o (i + 1) = ab_r2 A p o i (ab_r1 A p o i) j by
          rw [show j = (ab_l A o).length by omega]
          rfl] at H
        rw [show nI i + 1 = nI (i + 1) from ms_p1 1]
        exact H
      | succ r2 ih2 =>
        intro j hj
        refine b_X9_run_60 (ms_c1_i (n_longOf w0 (by omega)) ?_)
        refine ms_no (fun z => by rw [ms_nle (by omega) (by omega)] at z; omega) (ms_c1_i (n_runFrom w0 hp ho (by omega) (by omega)) ?_)
        have l1 := ab_r2_le (A := A) (p := p) (o := o) (i := i) (ab_r1 A p o i) (ab_r1_le i) j
        have l2 := (ab_ru_le (A := A) (p := p) (i := i) (o := o) (j := j) 12 0).2
        have H := ih2 (j + 1) (by omega)
        rw [show nI j + 1 = nI (j + 1) from ms_p1 1]
        refine ms_ite2 (fun z => ?_) (fun z => ?_)
        · rw [ms_nle (by omega) (by omega)] at z
          have e5 : ab_r2 A p o i (ab_r1 A p o i) (j + 1) = ab_r2 A p o i (ab_r1 A p o i) j := by
            rw [ab_r2]
            exact if_neg (by omega)
          rw [e5] at H
          exact H
        · rw [ms_nle (by omega) (by omega)] at z
          have e5 : ab_r2 A p o i (ab_r1 A p o i) (j + 1) = (ab_ru A p i o j 12 0, nI i) := by
            rw [ab_r2]
            exact if_pos (by omega)
          rw [e5] at H
          exact H
    exact H2 (ab_l A o).length 0 (by omega)
end Mdf
