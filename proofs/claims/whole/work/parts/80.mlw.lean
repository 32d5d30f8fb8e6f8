/-! THE MODEL: slips, looks, papers asked; written by wip/whole/mdl.py from mlw.txt -/
def RM (A : ab_T) (r : Nat → Int32) : Prop := (r 0 = nI (ab_t A) ∧ r 1 = nI (ab_p A) ∧ r 2 = nI (ab_e A) ∧ r 3 = nI (ab_x A).length) ∧ (∀ i j, i < ab_t A → j < 6 → r (10 + 6 * i + j) = nI (ab_th A i j)) ∧ (∀ p j, p < ab_p A → j < 3 → r (58 + 3 * p + j) = nI (ab_pa A p j)) ∧ (∀ e j, e < ab_e A → j < 7 → r (106 + 7 * e + j) = nI (ab_en A e j)) ∧ MT r (ab_x A)
def MX (A : ab_T) (M : md_T) : Prop := ab_w A ∧ RM A (md_a M 3)
def z_0 (M : md_T) : Nat → Int64 := fun j => if j < 17 then 0 else md_q M 25 j
section Mlw
variable {d i j n k p o e f u v x df : Nat} {h t : ms_S} {M N L : md_T} {S S' : Nat → Bool} {env : Nat → Int32} {A : ab_T}
theorem MX.fr (h : MX A M) (f : md_fr S M N) (h3 : S 3 = false) : MX A N := by
  unfold MX
  rw [mr_a3 f h3]
  exact h
theorem n_paperOf (w : MX A M) (he : e < ab_e A) : ms_Cl (d + 2) 152 [.ref h.length, .int (nI e)] (ms_m h M t) (some (.int (nI (ab_en A e 0)))) (ms_m h M t) := by
  have w1 := w.1.1
  have k := c9_paperOf (d := d) (h := h) (M := M) (t := t) (e := e) (by omega)
  rw [show 106 + 7 * e = 106 + 7 * e + 0 from rfl, w.2.2.2.2.1 e 0 he (by decide)] at k
  exact k
theorem n_thingOf (w : MX A M) (he : e < ab_e A) : ms_Cl (d + 2) 153 [.ref h.length, .int (nI e)] (ms_m h M t) (some (.int (nI (ab_en A e 1)))) (ms_m h M t) := by
  have w1 := w.1.1
  have k := c9_thingOf (d := d) (h := h) (M := M) (t := t) (e := e) (by omega)
  rw [w.2.2.2.2.1 e 1 he (by decide)] at k
  exact k
theorem n_fieldOf (w : MX A M) (he : e < ab_e A) (hf : f < 4) : ms_Cl (d + 2) 154 [.ref h.length, .int (nI e), .int (nI f)] (ms_m h M t) (some (.int (nI (ab_en A e (2 + f))))) (ms_m h M t) := by
  have w1 := w.1.1
  have k := c9_fieldOf (d := d) (h := h) (M := M) (t := t) (e := e) (f := f) (by omega) (by omega)
  rw [show 106 + 7 * e + 2 + f = 106 + 7 * e + (2 + f) by omega, w.2.2.2.2.1 e (2 + f) he (by omega)] at k
  exact k
theorem n_isGhost (w : MX A M) (hi : i < ab_t A) : ms_Cl (d + 2) 156 [.ref h.length, .int (nI i)] (ms_m h M t) (some (.int (ms_bi (ab_gh A i)))) (ms_m h M t) := by
  have w1 := w.1.1
  have k := c9_isGhost (d := d) (h := h) (M := M) (t := t) (k := i) (by omega)
  rw [w.2.2.1 i 5 hi (by decide)] at k
  have e : decide (nI (ab_th A i 5) = 1) = ab_gh A i := by
    unfold ab_gh
    refine decide_eq_decide.mpr ?_
    rw [show (1 : Int32) = nI 1 from rfl]
    exact Iff.of_eq (ms_nI_eq (by have := w.1.2.1 i 5; omega) (by decide))
  rw [e] at k
  exact k
theorem n_thingAt {g : ms_S} : ms_Cl (d + 1) 149 [.int (nI i)] g (some (.int (nI (10 + 6 * i)))) g := by
  have k := c9_thingAt (d := d) (v := nI i) (g := g)
  rw [show (10 : Int32) + 6 * nI i = nI (10 + 6 * i) by
    show nI 10 + nI 6 * nI i = _
    rw [nI_mul, ms_p1]] at k
  exact k
theorem n_paperAt {g : ms_S} : ms_Cl (d + 1) 150 [.int (nI i)] g (some (.int (nI (58 + 3 * i)))) g := by
  have k := c9_paperAt (d := d) (v := nI i) (g := g)
  rw [show (58 : Int32) + 3 * nI i = nI (58 + 3 * i) by
    show nI 58 + nI 3 * nI i = _
    rw [nI_mul, ms_p1]] at k
  exact k
theorem n_entryAt {g : ms_S} : ms_Cl (d + 1) 151 [.int (nI i)] g (some (.int (nI (106 + 7 * i)))) g := by
  have k := c9_entryAt (d := d) (v := nI i) (g := g)
  rw [show (106 : Int32) + 7 * nI i = nI (106 + 7 * i) by
    show nI 106 + nI 7 * nI i = _
    rw [nI_mul, ms_p1]] at k
  exact k
theorem n_rightOf (w : MX A M) (he : e < ab_e A) (hf : f < 4) : ms_Cl (d + 3) 155 [.ref h.length, .int (nI e), .int (nI f)] (ms_m h M t) (some (.int (nI (ab_th A (ab_en A e 1) f)))) (ms_m h M t) := by
  have w1 := w.1.1
  obtain ⟨_, hi⟩ := w.1.2.2.2.2.1 e he
  refine m_X9_rightOf ms_m_l ms_m_t ⟨_, ms_m_0⟩ (b_X9_rightOf_0 (Q := ms_lf _ _) ?_)
  simp only [ms_oR_e, ms_oI_e, ms_oL_e, mm_f3, mm_w3]
  refine ms_c1_i (n_thingOf w he) (ms_c1_i n_thingAt ?_)
  rw [ms_p1]
  exact n_rd (by omega) (by exact (w.2.2.1 _ f hi (by omega))) ⟨rfl, rfl⟩
theorem md_q_uq {M : md_T} {k n k2 n2 : Nat} {y : Int64} : md_q (md_uq M k n y) k2 n2 = if k2 = k ∧ n2 = n then y else md_q M k2 n2 := by
  show (if k2 = k then vp_updL (M.2.2.2 k2) n y else M.2.2.2 k2) n2 = _
  by_cases hk : k2 = k
  · rw [if_pos hk]
    by_cases hn : n2 = n
    · rw [if_pos ⟨hk, hn⟩, hn]
      exact if_pos rfl
    · rw [if_neg (fun z => hn z.2)]
      exact if_neg hn
  · rw [if_neg hk, if_neg (fun z => hk z.1)]
    rfl
theorem md_q_sq {M : md_T} {k n : Nat} {q : Nat → Int64} : md_q (md_sq M k q) k n = q n := by
  show (if k = k then q else M.2.2.2 k) n = _
  rw [if_pos rfl]
theorem md_sq_uq {M : md_T} {k n : Nat} {q : Nat → Int64} {y : Int64} : md_uq (md_sq M k q) k n y = md_sq M k (vp_updL q n y) := by
  unfold md_uq md_sq
  simp only [Prod.mk.injEq, true_and]
  funext j
  by_cases hj : j = k
  · simp only [hj, if_true]
  · simp only [hj, if_false]
theorem md_sq_self {M : md_T} {k : Nat} : md_sq M k (md_q M k) = M := by
  unfold md_sq
  refine Prod.ext rfl (Prod.ext rfl (Prod.ext rfl ?_))
  funext j
  by_cases hj : j = k
  · simp only [hj, if_true]; rfl
  · simp only [hj, if_false]
theorem c9_setNothing : ms_Cl (d + 1) 200 [.ref h.length] (ms_m h M t) none (ms_m h (md_sq M 25 (z_0 M)) t) := by
  refine m_X9_setNothing ms_m_l ms_m_t ⟨_, ms_m_0⟩ (b_X9_setNothing_0 (Q := ms_lf _ _) ?_)
  suffices H : ∀ r s q, s + r = 17 → (∀ j, q j = if j < s then 0 else md_q M 25 j) → ms_V cd_X9_setNothing none 0 (ms_Cl d) (ms_lf none (ms_m h (md_sq M 25 (z_0 M)) t)) 2 [(0, .ref h.length), (1, .int (nI s))] [] (ms_m h (md_sq M 25 q) t) by
    have k := H 17 0 (md_q M 25) rfl (fun j => by rw [if_neg (Nat.not_lt_zero _)])
    rw [md_sq_self] at k
    exact k
  intro r
  induction r with
  | zero =>
    intro s q hs hq
    refine b_X9_setNothing_2 (ms_yes ?_ ⟨rfl, ?_⟩)
    · rw [show s = 17 by omega]; decide
    · rw [show q = z_0 M by
        funext j
        rw [hq j, show s = 17 by omega]
        rfl]
  | succ r ih =>
    intro s q hs hq
    refine b_X9_setNothing_2 (ms_no ?_ ?_)
    · rw [show (17 : Int32) = nI 17 from rfl, ms_nle (by decide) (by omega)]
      omega
    simp only [ms_oR_e, ms_oI_e, ms_oL_e, mm_f25, mm_r25, mm_w25]
    refine ⟨ms_in (by omega) (by decide), ?_⟩
    rw [ms_nc (by omega), md_sq_uq, show nI s + 1 = nI (s + 1) from ms_p1 1]
    refine ih (s + 1) _ (by omega) (fun j => ?_)
    show (if j = s then 0 else q j) = _
    by_cases hj : j = s
    · rw [if_pos hj, if_pos (by omega)]
    · rw [if_neg hj, hq j]
      by_cases hj2 : j < s
      · rw [if_pos hj2, if_pos (by omega)]
      · rw [if_neg hj2, if_neg (by omega)]
def mT (A : ab_T) (M : md_T) (i : Nat) : md_T := md_uq (md_uq (md_uq M 25 6 (nI i).toInt64) 25 7 (nI (ab_th A i 4)).toInt64) 25 16 (ms_bi (ab_gh A i)).toInt64
theorem c9_setThing (w : MX A M) (hi : i < ab_t A) : ms_Cl (d + 3) 201 [.ref h.length, .int (nI i)] (ms_m h M t) none (ms_m h (mT A M i) t) := by
  have w1 := w.1.1
  have w2 : ∀ N : md_T, md_fr zT M N → MX A N := fun N hf => w.fr hf rfl
  refine m_X9_setThing ms_m_l ms_m_t ⟨_, ms_m_0⟩ (b_X9_setThing_0 (Q := ms_lf _ _) ?_)
  simp only [ms_oR_e, ms_oI_e, ms_oL_e, mm_f3, mm_w3, mm_f25, mm_r25, mm_w25]
  refine ⟨(by unfold vp_in; decide), ms_c1_i n_thingAt ?_⟩
  rw [show nI (10 + 6 * i) + 4 = nI (10 + 6 * i + 4) from ms_p1 4]
  simp only [ms_oR_e, ms_oI_e, ms_oL_e, mm_f3, mm_w3, mm_f25, mm_r25, mm_w25]
  refine n_rd (by omega) (by exact (w.2.2.1 i 4 hi (by decide))) ?_
  refine ⟨(by unfold vp_in; decide), ?_⟩
  refine ms_c1_i (n_isGhost (w2 _ (mr_q (mr_q mr_0 rfl) rfl)) hi) ?_
  unfold mT
  refine ms_ifT (fun hg => ?_) (fun hg => ?_)
  · simp only [ms_oR_e, ms_oI_e, ms_oL_e, mm_f25, mm_r25, mm_w25]
    rw [hg]
    exact ⟨(by unfold vp_in; decide), rfl, rfl⟩
  · simp only [ms_oR_e, ms_oI_e, ms_oL_e, mm_f25, mm_r25, mm_w25]
    rw [hg]
    exact ⟨(by unfold vp_in; decide), rfl, rfl⟩
theorem n_0 {j : Nat} (hj : j < 17) : md_q (md_sq M 25 (z_0 M)) 25 j = 0 := by
  rw [md_q_sq]
  exact if_pos hj
theorem ev_T {i : Nat} : ev_b (en_T A i) := by
  intro k h1 h2
  unfold en_T
  split
  · exact ms_bi_01 _
  · rw [if_neg (by omega), if_neg (by omega)]
    exact Or.inl rfl
theorem ev_S {i f u v : Nat} : ev_b (en_S A i f u v) := by
  intro k h1 h2
  unfold en_S
  rw [if_neg (by omega), if_neg (by omega), if_neg (by omega)]
  split
  · exact Or.inr rfl
  · exact ev_T k h1 h2
theorem ev_E {i p : Nat} : ev_b (en_E A i p) := by
  intro k h1 h2
  unfold en_E
  rw [if_neg (by omega)]
  exact ev_T k h1 h2
theorem ev_P {p o : Nat} : ev_b (en_P A p o) := by
  intro k h1 h2
  unfold en_P
  rw [if_neg (by omega), if_neg (by omega)]
  split
  · split
    · exact Or.inr rfl
    · exact Or.inl rfl
  · exact Or.inl rfl
theorem n_find (w : MX A M) (hv : ev_b env) (he : ∀ j, j < 17 → md_q M 25 j = z_env env j) (hx : x < 5) (hd : df ≤ 1000) : ms_H' (d + 4) 205 [.ref h.length, .int (nI x), .int (nI df)] (ms_m h M t) (gQ zS h M t (nI (fd_r x df (tx_last x env (ab_x A))))) := c9_find w.2.2.2.2.2 w.1.1.2.2.2 w.2.1.2.2.2 hv he hx hd
theorem fd_tells (hx : x ≠ 4) : fd_r x df (tx_last x env (ab_x A)) = tells A x df env := by
  unfold fd_r tells
  cases tx_last x env (ab_x A) with
  | none => rfl
  | some v => exact if_neg hx
theorem my_q1 {y : Nat} {as : List Value} {w : Int32} {K : Int32 → ms_S → Prop} (hh : ms_H' d y as (ms_m h M t) (gQ S h M t w)) (hk : ∀ N, md_fr S M N → K w (ms_m h N t)) : ms_c1 (ms_Cl d y as (ms_m h M t)) K := by
  refine mx_c1 hh (fun r g' hr => ?_)
  obtain ⟨N, hf, e1, e2⟩ := hr
  subst e1
  exact ⟨w, e2, hk N hf⟩
theorem my_n0 {y : Nat} {as : List Value} {P : md_T → Prop} {K : ms_S → Prop} (hh : ms_H' d y as (ms_m h M t) (gN S h M t P)) (hk : ∀ N, md_fr S M N → P N → K (ms_m h N t)) : ms_c0 (ms_Cl d y as (ms_m h M t)) K := by
  refine mx_c0 hh (fun r g' hr => ?_)
  obtain ⟨N, hf, e1, e2, e3⟩ := hr
  subst e1
  exact ⟨e2, hk N hf e3⟩
theorem zS_T : ∀ c, zT c = false → zS c = false := fun c h => decide_eq_false (fun z => of_decide_eq_false h (by omega))
theorem j17 {P : Nat → Prop} (h0 : P 0) (h1 : P 1) (h2 : P 2) (h3 : P 3) (h4 : P 4) (h5 : P 5) (h6 : P 6) (h7 : P 7) (h8 : P 8) (h9 : P 9) (h10 : P 10) (h11 : P 11) (h12 : P 12) (h13 : P 13) (h14 : P 14) (h15 : P 15) (h16 : P 16) : ∀ j, j < 17 → P j
  | 0, _ => h0 | 1, _ => h1 | 2, _ => h2 | 3, _ => h3 | 4, _ => h4 | 5, _ => h5 | 6, _ => h6 | 7, _ => h7 | 8, _ => h8 | 9, _ => h9 | 10, _ => h10 | 11, _ => h11 | 12, _ => h12 | 13, _ => h13 | 14, _ => h14 | 15, _ => h15 | 16, _ => h16
  | j + 17, h => absurd h (by omega)
def mS (A : ab_T) (M : md_T) (i f u v : Nat) (a b c : Int64) : md_T := md_uq (md_uq (md_uq (md_uq (md_uq (md_uq (mT A (md_sq M 25 (z_0 M)) i) 25 1 (nI f).toInt64) 25 2 (nI u).toInt64) 25 3 (nI v).toInt64) 25 12 a) 25 13 b) 25 14 c
theorem mS_25 {a b c : Int64} (ha : a = if k_kind u v = 1 then 1 else 0) (hb : b = if k_kind u v = 2 then 1 else 0) (hc : c = if k_kind u v = 3 then 1 else 0) : ∀ j, j < 17 → md_q (mS A M i f u v a b c) 25 j = z_env (en_S A i f u v) j := by
  have e0 : ∀ y : Int64, md_q (mS A M i f u v a b c) 25 = fun j => if j = 14 then c else if j = 13 then b else if j = 12 then a else if j = 3 then (nI v).toInt64 else if j = 2 then (nI u).toInt64 else if j = 1 then (nI f).toInt64 else if j = 16 then (ms_bi (ab_gh A i)).toInt64 else if j = 7 then (nI (ab_th A i 4)).toInt64 else if j = 6 then (nI i).toInt64 else z_0 M j := by
    intro _
    funext j
    unfold mS mT
    simp only [md_q_uq, md_q_sq, true_and]
  rw [e0 0]
  rcases k_kind_5 (u := u) (v := v) with q | q | q | q | q <;> rw [q] at ha hb hc <;> subst ha <;> subst hb <;> subst hc <;> refine j17 ?_ ?_ ?_ ?_ ?_ ?_ ?_ ?_ ?_ ?_ ?_ ?_ ?_ ?_ ?_ ?_ ?_ <;> first | rfl | (simp only [z_env, en_S, q]; rfl)
theorem mS_fr {a b c : Int64} : md_fr zT M (mS A M i f u v a b c) := mr_q (mr_q (mr_q (mr_q (mr_q (mr_q (mr_q (mr_q (mr_q (mr_sq mr_0 rfl) rfl) rfl) rfl) rfl) rfl) rfl) rfl) rfl) rfl
theorem n_slip (w : MX A M) (hi : i < ab_t A) (hu : u < 10000) (hv : v < 10000) : ms_H' (d + 5) 213 [.ref h.length, .int (nI i), .int (nI f), .int (nI u), .int (nI v)] (ms_m h M t) (gQ zT h M t (nI (ab_slip A i f u v))) := by
  refine mx_m (fun a b c => m_X9_slip a b ⟨_, ms_m_0⟩ c) (fun r g' h => ?_) (b_X9_slip_0 ?_)
  · obtain ⟨N, _, e, _⟩ := h
    rw [e]
    exact ⟨ms_m_l, ms_m_t⟩
  unfold ab_slip
  refine ms_ite2 (fun z => ?_) (fun z => ?_)
  · rw [ms_nI_eq (by omega) (by omega)] at z
    rw [if_pos z]
    exact ⟨M, mr_0, rfl, rfl⟩
  rw [ms_nI_eq (by omega) (by omega)] at z
  rw [if_neg z]
  refine ms_c0_i c9_setNothing ?_
  have w2 : MX A (md_sq M 25 (z_0 M)) := w.fr (S := zT) (mr_sq mr_0 rfl) rfl
  refine ms_c0_i (c9_setThing w2 hi) (ms_c1_i (c9_kindOf (by omega) (by omega)) ?_)
  simp only [ms_oR_e, ms_oI_e, ms_oL_e, mm_f25, mm_r25, mm_w25]
  refine ⟨(by unfold vp_in; decide), (by unfold vp_in; decide), (by unfold vp_in; decide), ?_⟩
  have fin : ∀ a b c : Int64, a = (if k_kind u v = 1 then 1 else 0) → b = (if k_kind u v = 2 then 1 else 0) → c = (if k_kind u v = 3 then 1 else 0) → ms_c1 (ms_Cl (d + 4) 205 [.ref h.length, .int 0, .int 9] (ms_m h (mS A M i f u v a b c) t)) fun r g => gQ zT h M t (nI (tells A 0 9 (en_S A i f u v))) (some (.int r)) g := by
    intro a b c ha hb hc
    refine my_q1 (n_find (x := 0) (df := 9) (w.fr (S := zT) mS_fr rfl) ev_S (mS_25 ha hb hc) (by decide) (by decide)) (fun N hf => ?_)
    rw [fd_tells (by decide)]
    exact ⟨N, mr_t mS_fr (mr_s hf zS_T), rfl, rfl⟩
  rcases k_kind_5 (u := u) (v := v) with q | q | q | q | q <;> rw [q] at fin ⊢
  · exact ms_no (by decide) ⟨(by unfold vp_in; decide), ms_no (by decide) ⟨(by unfold vp_in; decide), ms_no (by decide) ⟨(by unfold vp_in; decide), fin 0 0 0 rfl rfl rfl⟩⟩⟩
  · exact ms_yes rfl ⟨(by unfold vp_in; decide), ms_no (by decide) ⟨(by unfold vp_in; decide), ms_no (by decide) ⟨(by unfold vp_in; decide), fin 1 0 0 rfl rfl rfl⟩⟩⟩
  · exact ms_no (by decide) ⟨(by unfold vp_in; decide), ms_yes rfl ⟨(by unfold vp_in; decide), ms_no (by decide) ⟨(by unfold vp_in; decide), fin 0 1 0 rfl rfl rfl⟩⟩⟩
  · exact ms_no (by decide) ⟨(by unfold vp_in; decide), ms_no (by decide) ⟨(by unfold vp_in; decide), ms_yes rfl ⟨(by unfold vp_in; decide), fin 0 0 1 rfl rfl rfl⟩⟩⟩
  · exact ms_no (by decide) ⟨(by unfold vp_in; decide), ms_no (by decide) ⟨(by unfold vp_in; decide), ms_no (by decide) ⟨(by unfold vp_in; decide), fin 0 0 0 rfl rfl rfl⟩⟩⟩
theorem n_slips {a : Nat} (w : MX A M) (ha : a < ab_e A) (he : e < ab_e A) : ms_H' (d + 6) 214 [.ref h.length, .int (nI a), .int (nI e)] (ms_m h M t) (gQ zT h M t (nI (ab_slips A a e))) := by
  refine mx_m (fun a b c => m_X9_slips a b ⟨_, ms_m_0⟩ c) (fun r g' h => ?_) (b_X9_slips_0 ?_)
  · obtain ⟨N, _, e, _⟩ := h
    rw [e]
    exact ⟨ms_m_l, ms_m_t⟩
  obtain ⟨_, hi⟩ := w.1.2.2.2.2.1 e he
  suffices H : ∀ r s N, s + r = 4 → md_fr zT M N → ms_V cd_X9_slips none 1 (ms_Cl (d + 5)) (gQ zT h M t (nI (ab_slips A a e))) 5 [(0, .ref h.length), (1, .int (nI a)), (2, .int (nI e)), (3, .int (nI (sm (fun f => ab_slip A (ab_en A e 1) f (ab_en A a (2 + f)) (ab_en A e (2 + f))) s))), (4, .int (nI s))] [] (ms_m h N t) from H 4 0 M rfl mr_0
  intro r
  induction r with
  | zero =>
    intro s N hs hf
    have hs4 : s = 4 := by omega
    subst hs4
    exact b_X9_slips_5 (ms_yes (by decide) ⟨N, hf, rfl, rfl⟩)
  | succ r ih =>
    intro s N hs hf
    have wN := w.fr hf rfl
    refine b_X9_slips_5 (ms_no ?_ ?_)
    · rw [show (4 : Int32) = nI 4 from rfl, ms_nle (by decide) (by omega)]
      omega
    refine ms_c1_i (n_thingOf wN he) (ms_c1_i (n_fieldOf wN ha (by omega)) (ms_c1_i (n_fieldOf wN he (by omega)) ?_))
    refine my_q1 (n_slip wN hi (w.1.2.2.2.1 _ _) (w.1.2.2.2.1 _ _)) (fun L hl => ?_)
    have k := ih (s + 1) L (by omega) (mr_t hf hl)
    rw [show sm (fun f => ab_slip A (ab_en A e 1) f (ab_en A a (2 + f)) (ab_en A e (2 + f))) (s + 1) = sm (fun f => ab_slip A (ab_en A e 1) f (ab_en A a (2 + f)) (ab_en A e (2 + f))) s + ab_slip A (ab_en A e 1) s (ab_en A a (2 + s)) (ab_en A e (2 + s)) from rfl, ← ms_p1, ← ms_p1 (p := s) 1] at k
    exact k
theorem n_lookCost (w : MX A M) (he : e < ab_e A) : ms_H' (d + 6) 216 [.ref h.length, .int (nI e)] (ms_m h M t) (gQ zT h M t (nI (ab_look A e))) := by
  refine mx_m (fun a b c => m_X9_lookCost a b ⟨_, ms_m_0⟩ c) (fun r g' h => ?_) (b_X9_lookCost_0 ?_)
  · obtain ⟨N, _, e, _⟩ := h
    rw [e]
    exact ⟨ms_m_l, ms_m_t⟩
  obtain ⟨hp, hi⟩ := w.1.2.2.2.2.1 e he
  have w1 := w.1.1
  refine ms_c1_i (n_thingOf w he) (ms_c0_i c9_setNothing ?_)
  have w2 : MX A (md_sq M 25 (z_0 M)) := w.fr (S := zT) (mr_sq mr_0 rfl) rfl
  refine ms_c0_i (c9_setThing w2 hi) ?_
  have w3 : MX A (mT A (md_sq M 25 (z_0 M)) (ab_en A e 1)) := w.fr (S := zT) (mr_q (mr_q (mr_q (mr_sq mr_0 rfl) rfl) rfl) rfl) rfl
  simp only [ms_oR_e, ms_oI_e, ms_oL_e, mm_f3, mm_w3, mm_f25, mm_r25, mm_w25]
  refine ms_c1_i (n_paperOf w3 he) (ms_c1_i n_paperAt ?_)
  simp only [ms_oR_e, ms_oI_e, ms_oL_e, mm_f3, mm_w3, mm_f25, mm_r25, mm_w25]
  refine n_rd (by omega) (by exact (w3.2.2.2.1 _ 0 hp (by decide))) ?_
  refine ⟨(by unfold vp_in; decide), ?_⟩
  rw [show Int32.toNatClampNeg 4 = 4 from rfl]
  generalize hN : md_uq (mT A (md_sq M 25 (z_0 M)) (ab_en A e 1)) 25 4 (Int32.toInt64 (nI (ab_pa A (ab_en A e 0) 0))) = N
  have hfr : md_fr zT M N := by rw [← hN]; exact mr_q (mr_q (mr_q (mr_q (mr_sq mr_0 rfl) rfl) rfl) rfl) rfl
  have w4 : MX A N := w.fr hfr rfl
  have hq : ∀ j, j < 17 → md_q N 25 j = z_env (en_E A (ab_en A e 1) (ab_en A e 0)) j := by
    have e0 : md_q N 25 = fun j => if j = 4 then (nI (ab_pa A (ab_en A e 0) 0)).toInt64 else if j = 16 then (ms_bi (ab_gh A (ab_en A e 1))).toInt64 else if j = 7 then (nI (ab_th A (ab_en A e 1) 4)).toInt64 else if j = 6 then (nI (ab_en A e 1)).toInt64 else z_0 M j := by
      funext j
      rw [← hN]
      unfold mT
      simp only [md_q_uq, md_q_sq, true_and]
    rw [e0]
    refine j17 ?_ ?_ ?_ ?_ ?_ ?_ ?_ ?_ ?_ ?_ ?_ ?_ ?_ ?_ ?_ ?_ ?_ <;> simp [z_env, z_0, en_E, en_T]
  refine ms_c1_i (n_isGhost w4 hi) (ms_ifT (fun hg => ?_) (fun hg => ?_))
  · refine my_q1 (n_find (x := 1) (df := 5) w4 ev_E hq (by decide) (by decide)) (fun N2 hf2 => ?_)
    rw [fd_tells (by decide)]
    have hlk : ab_look A e = ab_lookc A e := by unfold ab_look; rw [hg]; rfl
    rw [hlk]
    suffices H : ∀ r s N, s + r = 4 → md_fr zT M N → ms_V cd_X9_lookCost none 1 (ms_Cl (d + 5)) (gQ zT h M t (nI (ab_lookc A e))) 61 [(0, .ref h.length), (1, .int (nI e)), (2, .int (nI (ab_en A e 1))), (3, .int (nI (tells A 1 5 (en_E A (ab_en A e 1) (ab_en A e 0)) + sm (fun f => ab_slip A (ab_en A e 1) f (ab_th A (ab_en A e 1) f) (ab_en A e (2 + f))) s))), (4, .int (nI s))] [] (ms_m h N t) from H 4 0 N2 rfl (mr_t hfr (mr_s hf2 zS_T))
    intro r
    induction r with
    | zero =>
      intro s N hs hf
      have hs4 : s = 4 := by omega
      subst hs4
      exact b_X9_lookCost_61 (ms_yes (by decide) ⟨N, hf, rfl, rfl⟩)
    | succ r ih =>
      intro s N hs hf
      have wN := w.fr hf rfl
      refine b_X9_lookCost_61 (ms_no ?_ ?_)
      · rw [show (4 : Int32) = nI 4 from rfl, ms_nle (by decide) (by omega)]
        omega
      refine ms_c1_i (n_rightOf wN he (by omega)) (ms_c1_i (n_fieldOf wN he (by omega)) ?_)
      refine my_q1 (n_slip wN hi (w.1.2.1 _ _) (w.1.2.2.2.1 _ _)) (fun L hl => ?_)
      have k := ih (s + 1) L (by omega) (mr_t hf hl)
      rw [show sm (fun f => ab_slip A (ab_en A e 1) f (ab_th A (ab_en A e 1) f) (ab_en A e (2 + f))) (s + 1) = sm (fun f => ab_slip A (ab_en A e 1) f (ab_th A (ab_en A e 1) f) (ab_en A e (2 + f))) s + ab_slip A (ab_en A e 1) s (ab_th A (ab_en A e 1) s) (ab_en A e (2 + s)) from rfl, ← Nat.add_assoc, ← ms_p1 (p := _ + _), ← ms_p1 (p := s) 1] at k
      exact k
  · refine my_q1 (n_find (x := 3) (df := 20) w4 ev_E hq (by decide) (by decide)) (fun N2 hf2 => ?_)
    rw [fd_tells (by decide)]
    have hlk : ab_look A e = ab_birth A e := by unfold ab_look; rw [hg]; rfl
    rw [hlk]
    exact ⟨N2, mr_t hfr (mr_s hf2 zS_T), rfl, rfl⟩
def mP (A : ab_T) (M : md_T) (p o : Nat) : md_T := md_uq (md_uq (md_uq (md_sq M 25 (z_0 M)) 25 4 (nI (ab_pa A p 0)).toInt64) 25 5 (nI (ab_pa A p 0) - nI (ab_pa A o 0)).toInt64) 25 15 (if ab_pa A p 1 = ab_pa A o 1 then 1 else 0)
theorem mP_fr : md_fr zT M (mP A M p o) := mr_q (mr_q (mr_q (mr_sq mr_0 rfl) rfl) rfl) rfl
theorem mP_25 : ∀ j, j < 17 → md_q (mP A M p o) 25 j = z_env (en_P A p o) j := by
  have e0 : md_q (mP A M p o) 25 = fun j => if j = 15 then (if ab_pa A p 1 = ab_pa A o 1 then 1 else 0) else if j = 5 then (nI (ab_pa A p 0) - nI (ab_pa A o 0)).toInt64 else if j = 4 then (nI (ab_pa A p 0)).toInt64 else z_0 M j := by
    funext j
    unfold mP
    simp only [md_q_uq, md_q_sq, true_and]
  have e1 : en_P A p o = fun k => if k = 3 then nI (ab_pa A p 0) else if k = 4 then nI (ab_pa A p 0) - nI (ab_pa A o 0) else if k = 10 then (if ab_pa A p 1 = ab_pa A o 1 then 1 else 0) else 0 := rfl
  rw [e0, e1]
  generalize nI (ab_pa A p 0) - nI (ab_pa A o 0) = D
  by_cases hk : ab_pa A p 1 = ab_pa A o 1
  · simp only [if_pos hk]
    refine j17 ?_ ?_ ?_ ?_ ?_ ?_ ?_ ?_ ?_ ?_ ?_ ?_ ?_ ?_ ?_ ?_ ?_ <;> simp [z_env, z_0]
  · simp only [if_neg hk]
    refine j17 ?_ ?_ ?_ ?_ ?_ ?_ ?_ ?_ ?_ ?_ ?_ ?_ ?_ ?_ ?_ ?_ ?_ <;> simp [z_env, z_0]
theorem n_setPapers (w : MX A M) (hp : p < ab_p A) (ho : o < ab_p A) : ms_Cl (d + 2) 217 [.ref h.length, .int (nI p), .int (nI o)] (ms_m h M t) none (ms_m h (mP A M p o) t) := by
  have w1 := w.1.1
  have wk1 := w.1.2.2.1 p 1
  have wk2 := w.1.2.2.1 o 1
  refine m_X9_setPapers ms_m_l ms_m_t ⟨_, ms_m_0⟩ (b_X9_setPapers_0 (Q := ms_lf _ _) ?_)
  refine ms_c0_i c9_setNothing ?_
  simp only [ms_oR_e, ms_oI_e, ms_oL_e, mm_f3, mm_w3, mm_f25, mm_r25, mm_w25]
  refine ms_c1_i n_paperAt ?_
  simp only [ms_oR_e, ms_oI_e, ms_oL_e, mm_f3, mm_w3, mm_f25, mm_r25, mm_w25]
  refine n_rd (by omega) (by exact (w.2.2.2.1 p 0 hp (by decide))) ⟨(by unfold vp_in; decide), ?_⟩
  refine ms_c1_i n_paperAt ?_
  simp only [ms_oR_e, ms_oI_e, ms_oL_e, mm_f3, mm_w3, mm_f25, mm_r25, mm_w25]
  refine n_rd (by omega) (by exact (w.2.2.2.1 p 0 hp (by decide))) ?_
  refine ms_c1_i n_paperAt ?_
  simp only [ms_oR_e, ms_oI_e, ms_oL_e, mm_f3, mm_w3, mm_f25, mm_r25, mm_w25]
  refine n_rd (by omega) (by exact (w.2.2.2.1 o 0 ho (by decide))) ⟨(by unfold vp_in; decide), ?_⟩
  refine ms_c1_i n_paperAt ?_
  rw [show nI (58 + 3 * p) + 1 = nI (58 + 3 * p + 1) from ms_p1 1]
  simp only [ms_oR_e, ms_oI_e, ms_oL_e, mm_f3, mm_w3, mm_f25, mm_r25, mm_w25]
  refine n_rd (by omega) (by exact (w.2.2.2.1 p 1 hp (by decide))) ?_
  refine ms_c1_i n_paperAt ?_
  rw [show nI (58 + 3 * o) + 1 = nI (58 + 3 * o + 1) from ms_p1 1]
  simp only [ms_oR_e, ms_oI_e, ms_oL_e, mm_f3, mm_w3, mm_f25, mm_r25, mm_w25]
  refine n_rd (by omega) (by exact (w.2.2.2.1 o 1 ho (by decide))) ?_
  unfold mP
  refine ms_ite2 (fun z => ?_) (fun z => ?_)
  · rw [ms_nI_eq (by omega) (by omega)] at z
    rw [if_pos z]
    exact ⟨(by unfold vp_in; decide), rfl, rfl⟩
  · rw [ms_nI_eq (by omega) (by omega)] at z
    rw [if_neg z]
    exact ⟨(by unfold vp_in; decide), rfl, rfl⟩
end Mlw
