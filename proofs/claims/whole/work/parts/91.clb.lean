/-! THE CLASS'S CALLS: kind, apart, twice, alike, tree, births, drift, weight, run; written by wip/whole/mdl.py from clb.txt -/
def an_kind (u v : Int32) : Int32 := if ms_ix 10000 u && ms_ix 10000 v then k_kind u.toNatClampNeg v.toNatClampNeg else -1
def al_r (A : ab_T) (a c : Nat) : Nat → Nat → Bool
  | 0, _ => true
  | r + 1, k => decide (ab_en A a (k - 1) = ab_en A c (k - 1)) && al_r A a c r (k + 1)
/-- a long answer -/
def fXL (A : ab_T) (X : cx_T) (t : ms_S) (a : Int64) (r : Option Value) (g' : ms_S) : Prop := ∃ Y, cx_fr fE X Y ∧ g' = ms_x Y t ∧ r = some (.long a) ∧ LC A 24 Y
section Clb
variable {d b i j k n p o e f u v x y s r c L day : Nat} {X Y Z : cx_T} {t : ms_S} {A : ab_T} {S : List Nat} {K : Int32 → ms_S → Prop} {q w : Int32}
theorem fL_E : ∀ c, fE c = false → fL c = false := fun c hc => fL_C c (fC_E c hc)
theorem LC_L (h : LC A 24 X) (f : cx_fr fL X Y) : LC A 24 Y := LC_keep LO_24 (fr_s f fL_C) h
theorem fX_0 (h : LC A 24 X) {a : Int32} : fX A X t a (some (.int a)) (ms_x X t) := ⟨X, _, fr_0, rfl, rfl, rfl, h⟩
theorem k_kindC {u v : Int32} : ms_H' (d + 3) 109 [.ref 0, .int u, .int v] (ms_x X t) (fQ fL X t (an_kind u v)) := by
  refine mx_m (fun a b c => m_X8_kind a b ⟨_, xo_0⟩ c) fQ_l (b_X8_kind_0 (ms_c1_i (k_within 9999 (by decide)) ?_))
  unfold an_kind
  refine ms_ifT (fun hg => ?_) (fun hg => ?_)
  · rw [hg]
    exact ⟨X, fr_0, rfl, rfl⟩
  rw [hg, Bool.true_and]
  refine ms_c1_i (k_within 9999 (by decide)) (ms_ifT (fun hw => ?_) (fun hw => ?_))
  · rw [hw]
    exact ⟨X, fr_0, rfl, rfl⟩
  obtain ⟨i, hi, rfl, e2, _⟩ := ms_ix_k hg
  obtain ⟨j, hj, rfl, f2, _⟩ := ms_ix_k hw
  rw [hw, e2, f2, if_pos rfl]
  exact ms_c1_i (c8_slipKind (by omega) (by omega)) ⟨X, fr_0, rfl, rfl⟩
theorem k_hasEI (h : CX A b X t) {e : Int32} : ms_Cl (d + 1) 5 [.ref b, .int e] (ms_x X t) (some (.int (ms_bi (ms_ix (ab_e A) e)))) (ms_x X t) := by
  have k := c_hasEntry (d := d) (p := e) h.bk
  rw [h.2.2.1.1.2.2.1] at k
  exact k
theorem k_hasPI (h : CX A b X t) {e : Int32} : ms_Cl (d + 1) 4 [.ref b, .int e] (ms_x X t) (some (.int (ms_bi (ms_ix (ab_p A) e)))) (ms_x X t) := by
  have k := c_hasPaper (d := d) (p := e) h.bk
  rw [h.2.2.1.1.2.1] at k
  exact k
theorem k_isGhostI (h : CX A b X t) {e : Int32} : ms_Cl (d + 2) 8 [.ref b, .int e] (ms_x X t) (some (.int (ms_bi (ms_ix (ab_t A) e && ab_gh A e.toNatClampNeg)))) (ms_x X t) := by
  cases he : ms_ix (ab_t A) e with
  | true =>
    obtain ⟨i, hi, rfl, e2, _⟩ := ms_ix_k he
    rw [e2, Bool.true_and]
    exact k_isGhost h hi
  | false =>
    have k := c_isGhost (d := d) (p := e) h.bk
    unfold bk_gh at k
    rw [h.2.2.1.1.1, he] at k
    rw [Bool.false_and] at k ⊢
    exact k
theorem k_one (h : CX A 6 X t) {a c : Int32} : ms_Cl (d + 3) 135 [.ref 0, .int a, .int c] (ms_x X t) (some (.int (ms_bi (an_one A a c)))) (ms_x X t) := by
  refine m_X8_areOfOneThing (Nat.le_refl _) (Nat.le_refl _) ⟨_, xo_0⟩ (b_X8_areOfOneThing_0 (Q := ms_lf _ _) (ms_oR_i xf_0_2 (ms_c1_i (k_hasEI h) ?_)))
  unfold an_one
  refine ms_ifT (fun hg => ?_) (fun hg => ?_)
  · rw [hg]
    exact ⟨(by first | exact Or.inr rfl | exact Or.inl rfl | exact Or.inl trivial | exact Or.inr trivial | trivial), rfl, rfl⟩
  rw [hg]
  refine ms_oR_i xf_0_2 (ms_c1_i (k_hasEI h) (ms_ifT (fun hw => ?_) (fun hw => ?_)))
  · rw [hw]
    exact ⟨(by first | exact Or.inr rfl | exact Or.inl rfl | exact Or.inl trivial | exact Or.inr trivial | trivial), rfl, rfl⟩
  obtain ⟨i, hi, rfl, e2, _⟩ := ms_ix_k hg
  obtain ⟨j, hj, rfl, f2, _⟩ := ms_ix_k hw
  rw [hw, e2, f2]
  have t1 := h.w.2.2.2.1 i 1
  have t2 := h.w.2.2.2.1 j 1
  refine ms_oR_i xf_0_2 (ms_c1_i (k_thingOf h hi) (ms_oR_i xf_0_2 (ms_c1_i (k_thingOf h hj) ?_)))
  refine ms_ite2 (fun z => ?_) (fun z => ?_)
  · rw [ms_nI_eq (by omega) (by omega)] at z
    rw [decide_eq_true z]
    exact ⟨(by first | exact Or.inr rfl | exact Or.inl rfl | exact Or.inl trivial | exact Or.inr trivial | trivial), rfl, rfl⟩
  · rw [ms_nI_eq (by omega) (by omega)] at z
    rw [decide_eq_false z]
    exact ⟨(by first | exact Or.inr rfl | exact Or.inl rfl | exact Or.inl trivial | exact Or.inr trivial | trivial), rfl, rfl⟩
theorem one_k {a c : Int32} (h : an_one A a c = true) : ∃ i j, a = nI i ∧ c = nI j ∧ a.toNatClampNeg = i ∧ c.toNatClampNeg = j ∧ i < ab_e A ∧ j < ab_e A ∧ ab_en A i 1 = ab_en A j 1 := by
  unfold an_one at h
  rw [Bool.and_eq_true, Bool.and_eq_true, decide_eq_true_eq] at h
  obtain ⟨i, hi, e1, e2, _⟩ := ms_ix_k h.1.1
  obtain ⟨j, hj, f1, f2, _⟩ := ms_ix_k h.1.2
  refine ⟨i, j, e1, f1, e2, f2, hi, hj, ?_⟩
  have := h.2
  rw [e2, f2] at this
  exact this
theorem k_apart (h : CX A 6 X t) (hC : LC A 24 X) {a c : Int32} : ms_H' (d + 6) 110 [.ref 0, .int a, .int c, .int w] (ms_x X t) (fX A X t (an_apart A a c w)) := by
  refine mx_m (fun a b c => m_X8_apart a b ⟨_, xo_0⟩ c) fV_l (b_X8_apart_0 (ms_c1_i (k_one h) ?_))
  unfold an_apart
  refine ms_ifT (fun hg => ?_) (fun hg => ?_)
  · rw [hg]
    exact fX_0 hC
  obtain ⟨i, j, rfl, rfl, e1, e2, hi, hj, hs⟩ := one_k hg
  rw [hg, e1, e2, Bool.true_and]
  refine ms_c1_i (k_within 1 (by decide)) (ms_ifT (fun hw => ?_) (fun hw => ?_))
  · rw [hw]
    exact fX_0 hC
  rw [hw, if_pos rfl]
  refine ms_ite2 (fun z => ?_) (fun z => ?_)
  · rw [if_pos z]
    refine ms_oR_i xf_0_3 (ms_oR_i xf_0_2 (mx_q1 (k_slipsBetween h hi hj) (fun Y fy => ?_)))
    exact ⟨Y, _, fr_s fy fL_E, rfl, rfl, rfl, LC_L hC fy⟩
  · rw [if_neg z]
    suffices H : ∀ r f, f + r = 4 → ms_V cd_X8_apart none 1 (ms_Cl (d + 5)) (fX A X t (nI (sm (fun f => if ab_en A i (2 + f) = ab_en A j (2 + f) then 0 else 1) 4))) 44 [(0, .ref 0), (1, .int (nI i)), (2, .int (nI j)), (4, .int (nI (sm (fun f => if ab_en A i (2 + f) = ab_en A j (2 + f) then 0 else 1) f))), (5, .int (nI f))] [] (ms_x X t) from H 4 0 rfl
    intro r
    induction r with
    | zero =>
      intro f hf
      rw [show f = 4 by omega]
      exact b_X8_apart_44 (ms_yes (by decide) (fX_0 hC))
    | succ r ih =>
      intro f hf
      have t1 := h.w.2.2.2.1 i (2 + f)
      have t2 := h.w.2.2.2.1 j (2 + f)
      refine b_X8_apart_44 (ms_no ?_ (ms_oR_i xf_0_2 (ms_c1_i (k_fieldOf h hi (by omega)) (ms_oR_i xf_0_2 (ms_c1_i (k_fieldOf h hj (by omega)) ?_)))))
      · rw [show (4 : Int32) = nI 4 from rfl, ms_nle (by decide) (by omega)]
        omega
      have H := ih (f + 1) (by omega)
      rw [show sm (fun f => if ab_en A i (2 + f) = ab_en A j (2 + f) then 0 else 1) (f + 1) = sm (fun f => if ab_en A i (2 + f) = ab_en A j (2 + f) then 0 else 1) f + (if ab_en A i (2 + f) = ab_en A j (2 + f) then 0 else 1) from rfl] at H
      rw [show nI f + 1 = nI (f + 1) from ms_p1 1]
      refine ms_ite2 (fun z => ?_) (fun z => ?_)
      · rw [ms_nI_eq (by omega) (by omega)] at z
        rw [if_pos z] at H
        exact H
      · rw [ms_nI_eq (by omega) (by omega)] at z
        rw [if_neg z] at H
        rw [show nI (sm (fun f => if ab_en A i (2 + f) = ab_en A j (2 + f) then 0 else 1) f) + 1 = nI (sm (fun f => if ab_en A i (2 + f) = ab_en A j (2 + f) then 0 else 1) f + 1) from ms_p1 1]
        exact H
theorem fXL_l {a : Int64} : ∀ r g', fXL A X t a r g' → (ms_x X t).length ≤ g'.length ∧ ms_tot (ms_x X t) ≤ ms_tot g' := by
  intro r g' h
  obtain ⟨Y, _, e, _⟩ := h
  rw [e]
  exact ⟨ms_x_l, ms_x_t⟩
theorem k_twice (h : CX A 6 X t) (hC : LC A 24 X) {a c : Int32} : ms_H' (d + 5) 111 [.ref 0, .int a, .int c] (ms_x X t) (fXL A X t (an_twice A a c)) := by
  refine mx_m (fun a b c => m_X8_twice a b ⟨_, xo_0⟩ c) fXL_l (b_X8_twice_0 ?_)
  unfold an_twice
  refine ms_ite2 (fun z => ?_) (fun z => ?_)
  · rw [if_pos z]
    exact ⟨X, fr_0, rfl, rfl, hC⟩
  rw [if_neg z]
  refine ms_c1_i (k_one h) (ms_ifT (fun hg => ?_) (fun hg => ?_))
  · rw [hg]
    exact ⟨X, fr_0, rfl, rfl, hC⟩
  obtain ⟨i, j, rfl, rfl, e1, e2, hi, hj, hs⟩ := one_k hg
  rw [hg, e1, e2, if_pos rfl]
  have ht := (h.w.2.2.2.2.1 i hi).2
  refine ms_oR_i xf_0_2 (ms_c1_i (k_thingOf h hi) ?_)
  suffices H : ∀ r f Y, f + r = 4 → cx_fr fL X Y → ms_V cd_X8_twice none 2 (ms_Cl (d + 4)) (fXL A X t (ab_tw A i j 4)) 34 [(0, .ref 0), (1, .int (nI i)), (2, .int (nI j)), (3, .int (nI (ab_en A i 1))), (4, .long (ab_tw A i j f)), (6, .int (nI f))] [] (ms_x Y t) from H 4 0 X rfl fr_0
  intro r
  induction r with
  | zero =>
    intro f Y hf fy
    rw [show f = 4 by omega]
    exact b_X8_twice_34 (ms_yes (by decide) ⟨Y, fr_s fy fL_E, rfl, rfl, LC_L hC fy⟩)
  | succ r ih =>
    intro f Y hf fy
    have hY := h.fr fy
    have t1 := h.w.2.2.2.1 i (2 + f)
    have t2 := h.w.2.2.2.1 j (2 + f)
    have t3 := h.w.2.1 (ab_en A i 1) f
    refine b_X8_twice_34 (ms_no ?_ (ms_oR_i xf_0_2 (ms_c1_i (k_fieldOf hY hi (by omega)) (ms_oR_i xf_0_2 (ms_c1_i (k_ofThing hY ht (by omega)) (ms_oR_i xf_0_2 (ms_c1_i (k_fieldOf hY hj (by omega)) ?_)))))))
    · rw [show (4 : Int32) = nI 4 from rfl, ms_nle (by decide) (by omega)]
      omega
    rw [show nI f + 1 = nI (f + 1) from ms_p1 1]
    have skip : ∀ Z, cx_fr fL X Z → ¬ (ab_en A i (2 + f) = ab_en A j (2 + f) ∧ ab_en A i (2 + f) ≠ ab_th A (ab_en A i 1) f) → ms_V cd_X8_twice none 2 (ms_Cl (d + 4)) (fXL A X t (ab_tw A i j 4)) 34 [(0, .ref 0), (1, .int (nI i)), (2, .int (nI j)), (3, .int (nI (ab_en A i 1))), (4, .long (ab_tw A i j f)), (6, .int (nI (f + 1)))] [] (ms_x Z t) := by
      intro Z fz hno
      have H := ih (f + 1) Z (by omega) fz
      rw [show ab_tw A i j (f + 1) = ab_tw A i j f by rw [ab_tw, if_neg hno]] at H
      exact H
    refine ms_ite2 (fun z1 => ?_) (fun z1 => ?_)
    · rw [ms_nI_eq (by omega) (by omega)] at z1
      refine ms_ite2 (fun z2 => ?_) (fun z2 => ?_)
      · rw [ms_nI_eq (by omega) (by omega)] at z2
        exact skip Y fy (fun q => q.2 z2)
      · rw [ms_nI_eq (by omega) (by omega)] at z2
        refine ms_oR_i xf_0_3 (ms_oR_i xf_0_2 (mx_q1 (k_slipTells hY ht (by omega) (by omega) (by omega) (fun q => z2 q.symm)) (fun Z hz => ?_)))
        have H := ih (f + 1) Z (by omega) (fr_t fy hz)
        rw [show ab_tw A i j (f + 1) = ab_tw A i j f * (Int32.toInt64 (1 + nI (ab_slip A (ab_en A i 1) f (ab_th A (ab_en A i 1) f) (ab_en A i (2 + f))))) by rw [ab_tw, if_pos ⟨z1, z2⟩]] at H
        exact H
    · rw [ms_nI_eq (by omega) (by omega)] at z1
      exact skip Y fy (fun q => z1 q.1)
theorem k_ofE (h : CX A b X t) (hi : i < ab_e A) (hj : 1 ≤ j ∧ j < 7) : ms_Cl (d + 2) 12 [.ref b, .int (nI i), .int (nI (j + 1))] (ms_x X t) (some (.int (nI (ab_en A i j)))) (ms_x X t) := by
  have k := c_ofEntry (d := d) (p := nI i) (w := nI (j + 1)) h.bk
  have e := a_en h.2.2.1 h.w hi (j := j) hj.2
  rw [if_neg (by omega)] at e
  rw [e] at k
  exact k
theorem k_areAlike (h : CX A b X t) (hi : i < ab_e A) (hj : j < ab_e A) : ms_Cl (d + 3) 21 [.ref b, .int (nI i), .int (nI j)] (ms_x X t) (some (.int (ms_bi (ab_al A i j)))) (ms_x X t) := by
  refine m_X0_areAlike (Nat.le_refl _) (Nat.le_refl _) h.bk.rc (b_X0_areAlike_0 (Q := ms_lf _ _) ?_)
  have e : ab_al A i j = al_r A i j 5 2 := by
    unfold ab_al
    simp only [al_r, Bool.and_true]
    rw [decide_eq_decide.mpr (show ab_en A j 1 = ab_en A i 1 ↔ ab_en A i 1 = ab_en A j 1 from eq_comm), decide_eq_decide.mpr (show ab_en A j 2 = ab_en A i 2 ↔ ab_en A i 2 = ab_en A j 2 from eq_comm), decide_eq_decide.mpr (show ab_en A j 3 = ab_en A i 3 ↔ ab_en A i 3 = ab_en A j 3 from eq_comm), decide_eq_decide.mpr (show ab_en A j 4 = ab_en A i 4 ↔ ab_en A i 4 = ab_en A j 4 from eq_comm), decide_eq_decide.mpr (show ab_en A j 5 = ab_en A i 5 ↔ ab_en A i 5 = ab_en A j 5 from eq_comm)]
  rw [e]
  suffices H : ∀ r k, k + r = 7 → 2 ≤ k → ms_V cd_X0_areAlike none 4 (ms_Cl (d + 2)) (ms_lf (some (.int (ms_bi (al_r A i j r k)))) (ms_x X t)) 2 [(0, .ref b), (1, .int (nI i)), (2, .int (nI j)), (3, .int (nI k))] [] (ms_x X t) from H 5 2 rfl (by decide)
  intro r
  induction r with
  | zero =>
    intro k hk h2
    rw [show k = 7 by omega]
    exact b_X0_areAlike_2 (ms_yes (by decide) ⟨(by first | exact Or.inr rfl | exact Or.inl rfl | exact Or.inl trivial | exact Or.inr trivial | trivial), rfl, rfl⟩)
  | succ r ih =>
    intro k hk h2
    have t1 := h.w.2.2.2.1 i (k - 1)
    have t2 := h.w.2.2.2.1 j (k - 1)
    have k1 := k_ofE (d := d) h hi (j := k - 1) (by omega)
    have k2 := k_ofE (d := d) h hj (j := k - 1) (by omega)
    rw [show k - 1 + 1 = k by omega] at k1 k2
    refine b_X0_areAlike_2 (ms_no ?_ (ms_c1_i k1 (ms_c1_i k2 ?_)))
    · rw [show (7 : Int32) = nI 7 from rfl, ms_nle (by decide) (by omega)]
      omega
    rw [show nI k + 1 = nI (k + 1) from ms_p1 1]
    refine ms_ite2 (fun z => ?_) (fun z => ?_)
    · rw [ms_nI_eq (by omega) (by omega)] at z
      have H := ih (k + 1) (by omega) (by omega)
      unfold al_r
      rw [decide_eq_true z, Bool.true_and]
      exact H
    · rw [ms_nI_eq (by omega) (by omega)] at z
      unfold al_r
      rw [decide_eq_false z]
      exact ⟨(by first | exact Or.inr rfl | exact Or.inl rfl | exact Or.inl trivial | exact Or.inr trivial | trivial), rfl, rfl⟩
theorem k_alike (h : CX A 6 X t) (hC : LC A 24 X) {e : Int32} : ms_H' (d + 4) 112 [.ref 0, .int e, .int q] (ms_x X t) (fX A X t (an_alike A e q)) := by
  refine mx_m (fun a b c => m_X8_alike a b ⟨_, xo_0⟩ c) fV_l (b_X8_alike_0 (ms_oR_i xf_0_2 (ms_c1_i (k_hasEI h) ?_)))
  unfold an_alike
  refine ms_ifT (fun hg => ?_) (fun hg => ?_)
  · rw [hg]
    exact fX_0 hC
  rw [hg, Bool.true_and]
  refine ms_c1_i (k_within 99 (by decide)) (ms_ifT (fun hw => ?_) (fun hw => ?_))
  · rw [hw]
    exact fX_0 hC
  obtain ⟨i, hi, rfl, e2, _⟩ := ms_ix_k hg
  obtain ⟨j, hj, rfl, f2, _⟩ := ms_ix_k hw
  rw [hw, e2, f2, if_pos rfl]
  have hw1 := h.w.1
  suffices H : ∀ r o, o + r = ab_e A → ms_V cd_X8_alike none 1 (ms_Cl (d + 3)) (fX A X t (nI (sm (fun o => if ab_es A o j && ab_al A i o then 1 else 0) (ab_e A)))) 27 [(0, .ref 0), (1, .int (nI i)), (2, .int (nI j)), (3, .int (nI (sm (fun o => if ab_es A o j && ab_al A i o then 1 else 0) o))), (4, .int (nI o))] [] (ms_x X t) from H (ab_e A) 0 (by omega)
  intro r
  induction r with
  | zero =>
    intro o ho
    refine b_X8_alike_27 (ms_oR_i xf_0_2 (ms_oI_i (k_ec h) ?_))
    refine ms_yes ((ms_nle (by omega) (by omega)).mpr (by omega)) ?_
    rw [show ab_e A = o by omega]
    exact fX_0 hC
  | succ r ih =>
    intro o ho
    have hp := (h.w.2.2.2.2.1 o (by omega)).1
    refine b_X8_alike_27 (ms_oR_i xf_0_2 (ms_oI_i (k_ec h) ?_))
    refine ms_no (fun z => by rw [ms_nle (by omega) (by omega)] at z; omega) (ms_oR_i xf_0_2 (ms_oR_i xf_0_2 (ms_c1_i (k_paperOf h (by omega)) (ms_c1_i (k_isSeen h (by omega) (by omega)) ?_))))
    have H := ih (o + 1) (by omega)
    rw [show sm (fun o => if ab_es A o j && ab_al A i o then 1 else 0) (o + 1) = sm (fun o => if ab_es A o j && ab_al A i o then 1 else 0) o + (if ab_es A o j && ab_al A i o then 1 else 0) from rfl] at H
    rw [show nI o + 1 = nI (o + 1) from ms_p1 1]
    refine ms_ifT (fun hg => ?_) (fun hg => ?_)
    · rw [show ab_es A o j = false from hg] at H
      exact H
    · rw [show ab_es A o j = true from hg, Bool.true_and] at H
      refine ms_oR_i xf_0_2 (ms_c1_i (k_areAlike h hi (by omega)) (ms_ifT (fun hg2 => ?_) (fun hg2 => ?_)))
      · rw [hg2] at H
        exact H
      · rw [hg2, if_pos rfl] at H
        rw [show nI (sm (fun o => if ab_es A o j && ab_al A i o then 1 else 0) o) + 1 = nI (sm (fun o => if ab_es A o j && ab_al A i o then 1 else 0) o + 1) from ms_p1 1]
        exact H
theorem k_made (h : CX A b X t) (hi : i < ab_e A) (hj : j < ab_e A) : ms_Cl (d + 4) 22 [.ref b, .int (nI i), .int (nI j)] (ms_x X t) (some (.int (nI (ab_mr A j i j)))) (ms_x X t) := by
  have ht := (h.w.2.2.2.2.1 j hj).2
  refine m_X0_fieldsMadeRight (Nat.le_refl _) (Nat.le_refl _) h.bk.rc (b_X0_fieldsMadeRight_0 (Q := ms_lf _ _) (ms_c1_i (k_thingOf h hj) ?_))
  unfold ab_mr
  generalize hF : (fun f => if ab_en A j (2 + f) = ab_th A (ab_en A j 1) f ∧ ab_en A i (2 + f) ≠ ab_th A (ab_en A j 1) f then 1 else 0) = F
  suffices H : ∀ r f, f + r = 4 → ms_V cd_X0_fieldsMadeRight none 1 (ms_Cl (d + 3)) (ms_lf (some (.int (nI (sm F 4)))) (ms_x X t)) 13 [(0, .ref b), (1, .int (nI i)), (2, .int (nI j)), (3, .int (nI (ab_en A j 1))), (4, .int (nI (sm F f))), (5, .int (nI f))] [] (ms_x X t) from H 4 0 rfl
  intro r
  induction r with
  | zero =>
    intro f hf
    rw [show f = 4 by omega]
    exact b_X0_fieldsMadeRight_13 (ms_yes (by decide) ⟨rfl, rfl⟩)
  | succ r ih =>
    intro f hf
    have t1 := h.w.2.2.2.1 i (2 + f)
    have t2 := h.w.2.2.2.1 j (2 + f)
    have t3 := h.w.2.1 (ab_en A j 1) f
    refine b_X0_fieldsMadeRight_13 (ms_no ?_ (ms_c1_i (k_ofThing h ht (by omega)) (ms_c1_i (k_fieldOf h hj (by omega)) ?_)))
    · rw [show (4 : Int32) = nI 4 from rfl, ms_nle (by decide) (by omega)]
      omega
    have H := ih (f + 1) (by omega)
    rw [show sm F (f + 1) = sm F f + F f from rfl, ← hF] at H
    simp only at H
    rw [hF] at H
    rw [show nI f + 1 = nI (f + 1) from ms_p1 1]
    refine ms_ite2 (fun z1 => ?_) (fun z1 => ?_)
    · rw [ms_nI_eq (by omega) (by omega)] at z1
      refine ms_c1_i (k_fieldOf h hi (by omega)) (ms_ite2 (fun z2 => ?_) (fun z2 => ?_))
      · rw [ms_nI_eq (by omega) (by omega)] at z2
        rw [if_neg (fun q => q.2 z2)] at H
        exact H
      · rw [ms_nI_eq (by omega) (by omega)] at z2
        rw [if_pos ⟨z1, z2⟩] at H
        rw [show nI (sm F f) + 1 = nI (sm F f + 1) from ms_p1 1]
        exact H
    · rw [ms_nI_eq (by omega) (by omega)] at z1
      rw [if_neg (fun q => z1 q.1)] at H
      exact H
end Clb
