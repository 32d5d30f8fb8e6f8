/-! THE CLASS'S CALLS over its leasts: least, source, from, judge, tree, births, drift, weight; written by wip/whole/mdl.py from cla.txt -/
/-- an answer of the class's: what is kept stays right -/
def fX (A : ab_T) (X : cx_T) (t : ms_S) (a : Int32) : Option Value → ms_S → Prop := fV fE X t (fun v Y => v = a ∧ LC A 24 Y)
def OR (A : ab_T) (L day : Nat) (X : cx_T) : Prop := ∀ e, e < ab_e A → ab_es A e day = true → cx_a X (L + 6) e = or_I (ab_or A e day)
section Cla
variable {d b i j k n p o e f u v x y s r c L day : Nat} {X Y Z : cx_T} {t : ms_S} {A : ab_T} {S : List Nat} {K : Int32 → ms_S → Prop} {q w : Int32}
theorem ones_src : ones (sbits A p day) 16 = (ab_src A p day).length := (sbt_ok 16 (Nat.le_refl _)).2.2
theorem fA_E : ∀ c, fE c = false → fA 24 c = false := fun c hc => by
  have h := of_decide_eq_false hc
  unfold fA
  rw [show fC c = false from decide_eq_false (by omega), decide_eq_false (by omega)]
  rfl
theorem fO_E : ∀ c, fE c = false → fO 24 c = false := fun c hc => fO_A c (fA_E c hc)
theorem LO_24 : LO 24 6 := Or.inl ⟨rfl, rfl⟩
theorem SE_or (h : ∀ p, p < ab_p A → ab_s A p day = true → SE A L X p (sbits A p day)) (w : ab_w A) : OR A L day X := by
  intro e he hs
  have hp := (w.2.2.2.2.1 e he).1
  have k := (h _ hp hs).2.2.2 (ab_n A e) (ab_n_lt he)
  rw [q_e_n he, sb_sl] at k
  exact k
theorem k_sumOf (h : CX A b X t) (hL : LO L b) (hp : p < ab_p A) : ms_Cl (d + 2) 55 [.ref L, .int (nI p)] (ms_x X t) (some (.int (cx_a X (L + 4) p))) (ms_x X t) := by
  have hw := h.w.1.2.1
  refine m_X3_sumOf (Nat.le_refl _) (Nat.le_refl _) (xL_rc hL) (b_X3_sumOf_0 (Q := ms_lf _ _) (ms_oR_i (xL_0 hL) (ms_c1_i (k_hasPaper h (by omega)) ?_)))
  rw [decide_eq_true hp]
  refine ms_no (by decide) (ms_oR_i (xL_6 hL) ?_)
  rw [cA_r (cA_i4 hL)]
  refine ⟨ms_in (by omega) (by decide), ?_, rfl⟩
  rw [ms_nc (by omega)]
theorem k_bitsOf (h : CX A b X t) (hL : LO L b) (hp : p < ab_p A) : ms_Cl (d + 2) 56 [.ref L, .int (nI p)] (ms_x X t) (some (.int (cx_a X (L + 5) p))) (ms_x X t) := by
  have hw := h.w.1.2.1
  refine m_X3_bitsOf (Nat.le_refl _) (Nat.le_refl _) (xL_rc hL) (b_X3_bitsOf_0 (Q := ms_lf _ _) (ms_oR_i (xL_0 hL) (ms_c1_i (k_hasPaper h (by omega)) ?_)))
  rw [decide_eq_true hp]
  refine ms_no (by decide) (ms_oR_i (xL_7 hL) ?_)
  rw [cA_r (cA_i5 hL)]
  refine ⟨ms_in (by omega) (by decide), ?_, rfl⟩
  rw [ms_nc (by omega)]
theorem k_originOf (h : CX A b X t) (hL : LO L b) (he : e < ab_e A) : ms_Cl (d + 2) 57 [.ref L, .int (nI e)] (ms_x X t) (some (.int (cx_a X (L + 6) e))) (ms_x X t) := by
  have hw := h.w.1.2.2.1
  refine m_X3_originOf (Nat.le_refl _) (Nat.le_refl _) (xL_rc hL) (b_X3_originOf_0 (Q := ms_lf _ _) (ms_oR_i (xL_0 hL) (ms_c1_i (k_hasEntry h (by omega)) ?_)))
  rw [decide_eq_true he]
  refine ms_no (by decide) (ms_oR_i (xL_8 hL) ?_)
  rw [cA_r (cA_i6 hL)]
  refine ⟨ms_in (by omega) (by decide), ?_, rfl⟩
  rw [ms_nc (by omega)]
theorem k_sumOfAll (h : CX A b X t) (hL : LO L b) (hd : day < 2 ^ 31) (hs : ∀ p, p < ab_p A → ab_s A p day = true → cx_a X (L + 4) p = nI (lb A p (ab_src A p day)).1) : ms_Cl (d + 4) 58 [.ref L, .int (nI day)] (ms_x X t) (some (.int (nI (ab_ts A day)))) (ms_x X t) := by
  have hw := h.w.1.2.1
  refine m_X3_sumOfAll (Nat.le_refl _) (Nat.le_refl _) (xL_rc hL) (b_X3_sumOfAll_0 (Q := ms_lf _ _) ?_)
  suffices H : ∀ r p, p + r = ab_p A → ms_V cd_X3_sumOfAll none 1 (ms_Cl (d + 3)) (ms_lf (some (.int (nI (ab_ts A day)))) (ms_x X t)) 4 [(0, .ref L), (1, .int (nI day)), (2, .int (nI (sm (fun p => if ab_s A p day then (lb A p (ab_src A p day)).1 else 0) p))), (3, .int (nI p))] [] (ms_x X t) from H (ab_p A) 0 (by omega)
  intro r
  induction r with
  | zero =>
    intro p hp
    refine b_X3_sumOfAll_4 (ms_oR_i (xL_0 hL) (ms_oI_i (k_pc h) ?_))
    refine ms_yes ((ms_nle (by omega) (by omega)).mpr (by omega)) ⟨?_, rfl⟩
    rw [show p = ab_p A by omega]
    rfl
  | succ r ih =>
    intro p hp
    refine b_X3_sumOfAll_4 (ms_oR_i (xL_0 hL) (ms_oI_i (k_pc h) ?_))
    refine ms_no (fun z => by rw [ms_nle (by omega) (by omega)] at z; omega) (ms_oR_i (xL_0 hL) (ms_c1_i (k_isSeen h (by omega) hd) ?_))
    have H := ih (p + 1) (by omega)
    rw [show sm (fun p => if ab_s A p day then (lb A p (ab_src A p day)).1 else 0) (p + 1) = sm (fun p => if ab_s A p day then (lb A p (ab_src A p day)).1 else 0) p + (if ab_s A p day then (lb A p (ab_src A p day)).1 else 0) from rfl] at H
    rw [show nI p + 1 = nI (p + 1) from ms_p1 1]
    refine ms_ifT (fun hg => ?_) (fun hg => ?_)
    · rw [hg] at H
      exact H
    · rw [hg, if_pos rfl] at H
      refine ms_oR_i (xL_6 hL) ?_
      rw [cA_r (cA_i4 hL)]
      refine ⟨ms_in (by omega) (by decide), ?_⟩
      rw [ms_nc (by omega), hs p (by omega) hg, ms_p1]
      exact H
theorem k_comesFrom (h : CX A b X t) (hL : LO L b) (hO : OR A L day X) (he : e < ab_e A) (hes : ab_es A e day = true) (hs : s < ab_e A) : ms_Cl (d + 3) 59 [.ref L, .int (nI e), .int (nI s)] (ms_x X t) (some (.int (ms_bi (ab_cf A day s 16 (ab_or A e day))))) (ms_x X t) := by
  have hw := h.w.1.2.2.1
  refine m_X3_comesFrom (Nat.le_refl _) (Nat.le_refl _) (xL_rc hL) (b_X3_comesFrom_0 (Q := ms_lf _ _) (ms_c1_i (k_originOf h hL he) ?_))
  rw [hO e he hes]
  have hin : ∀ f, ab_or A e day = some f → f < ab_e A ∧ ab_es A f day = true := fun f hf => ⟨(ab_or_in he hf).1, (ab_or_in he hf).2.2.1⟩
  generalize ab_or A e day = o at hin
  suffices H : ∀ r k o, k + r = 16 → (∀ f, o = some f → f < ab_e A ∧ ab_es A f day = true) → ms_V cd_X3_comesFrom none 4 (ms_Cl (d + 2)) (ms_lf (some (.int (ms_bi (ab_cf A day s r o)))) (ms_x X t)) 9 [(0, .ref L), (2, .int (nI s)), (3, .int (or_I o)), (4, .int (nI k))] [] (ms_x X t) from H 16 0 o rfl hin
  intro r
  induction r with
  | zero =>
    intro k o hk hin
    refine b_X3_comesFrom_9 (ms_yes ?_ ⟨(by first | exact Or.inr rfl | exact Or.inl rfl | exact Or.inl trivial | exact Or.inr trivial | trivial), rfl, rfl⟩)
    rw [show k = 16 by omega]; decide
  | succ r ih =>
    intro k o hk hin
    refine b_X3_comesFrom_9 (ms_no ?_ ?_)
    · rw [show (16 : Int32) = nI 16 from rfl, ms_nle (by decide) (by omega)]
      omega
    cases o with
    | none => exact ms_yes rfl ⟨(by first | exact Or.inr rfl | exact Or.inl rfl | exact Or.inl trivial | exact Or.inr trivial | trivial), rfl, rfl⟩
    | some f =>
      obtain ⟨h1, h2⟩ := hin f rfl
      refine ms_no (nI_m1 (x := f) (by omega)) ?_
      show ite (nI f = nI s) _ _
      refine ms_ite2 (fun z => ?_) (fun z => ?_)
      · rw [ms_nI_eq (by omega) (by omega)] at z
        refine ⟨(by first | exact Or.inr rfl | exact Or.inl rfl | exact Or.inl trivial | exact Or.inr trivial | trivial), ?_, rfl⟩
        unfold ab_cf
        rw [if_pos z]
        rfl
      · rw [ms_nI_eq (by omega) (by omega)] at z
        refine ms_c1_i (k_originOf h hL h1) ?_
        rw [hO f h1 h2, show nI k + 1 = nI (k + 1) from ms_p1 1]
        have H := ih (k + 1) (ab_or A f day) (by omega) (fun g hg => ⟨(ab_or_in h1 hg).1, (ab_or_in h1 hg).2.2.1⟩)
        rw [show ab_cf A day s (r + 1) (some f) = ab_cf A day s r (ab_or A f day) by
          rw [ab_cf]
          exact if_neg z]
        exact H
theorem ix100 (h : ms_ix 100 q = false) : 99 < q ∨ q < 0 := by
  by_cases h0 : q < 0
  · exact Or.inr h0
  · by_cases h1 : nI 100 ≤ q
    · refine Or.inl (Int32.lt_iff_toInt_lt.mpr ?_)
      have := Int32.le_iff_toInt_le.mp h1
      rw [nI_toInt (by decide)] at this
      have h9 : (99 : Int32).toInt = 99 := by decide
      omega
    · rw [ms_ix_in (by decide) h0 h1] at h
      cases h
theorem k_seenI (h : CX A b X t) {p : Int32} : ms_Cl (d + 3) 9 [.ref b, .int p, .int q] (ms_x X t) (some (.int (ms_bi (an_seen A p q)))) (ms_x X t) := by
  have k := c_isSeen (d := d) (p := p) (q := q) h.bk
  have e : bk_seen (cx_b X b) p q = an_seen A p q := by
    unfold an_seen
    cases hp : ms_ix (ab_p A) p with
    | false =>
      unfold bk_seen
      rw [h.2.2.1.1.2.1, hp, Bool.false_and, Bool.and_false, Bool.false_and]
    | true =>
      obtain ⟨i, hi, e1, e2, _⟩ := ms_ix_k hp
      rw [Bool.true_and, e2, e1]
      cases hq : ms_ix 100 q with
      | true =>
        obtain ⟨j, hj, f1, f2, _⟩ := ms_ix_k hq
        rw [f2, f1, a_seenN h (by have := h.w.1.2.1; omega) (by omega), Bool.true_and]
      | false =>
        rw [a_seen h hi, Bool.false_and]
        rcases ix100 hq with h1 | h1
        · rw [decide_eq_true h1]
          rfl
        · have h2 : q < nI (ab_pa A i 2) := Int32.lt_of_lt_of_le h1 (ms_nI_0 (by have := h.w.2.2.1 i 2; omega))
          rw [decide_eq_true h2, Bool.not_true, Bool.and_false]
  rw [e] at k
  exact k
theorem k_pofI (h : CX A b X t) {e : Int32} : ms_Cl (d + 2) 12 [.ref b, .int e, .int 0] (ms_x X t) (some (.int (if ms_ix (ab_e A) e then nI (ab_en A e.toNatClampNeg 0) else -1))) (ms_x X t) := by
  have k := c_ofEntry (d := d) (p := e) (w := 0) h.bk
  have e : bk_of (bk_ec (cx_b X b)) 8 (bk_en (cx_b X b)) e 0 = if ms_ix (ab_e A) e then nI (ab_en A e.toNatClampNeg 0) else -1 := by
    cases he : ms_ix (ab_e A) e with
    | true =>
      obtain ⟨i, hi, e1, e2, _⟩ := ms_ix_k he
      rw [if_pos rfl, e2, e1]
      exact a_en h.2.2.1 h.w hi (j := 0) (by decide)
    | false =>
      rw [if_neg (by decide)]
      unfold bk_of
      rw [h.2.2.1.1.2.2.1, he]
      rfl
  rw [e] at k
  exact k
theorem an_seen_es {e : Int32} (w : ab_w A) : an_seen A (if ms_ix (ab_e A) e then nI (ab_en A e.toNatClampNeg 0) else -1) q = an_es A e q := by
  unfold an_es
  cases he : ms_ix (ab_e A) e with
  | true =>
    obtain ⟨i, hi, e1, e2, _⟩ := ms_ix_k he
    have hp := (w.2.2.2.2.1 i hi).1
    have w1 := w.1.2.1
    rw [if_pos rfl, e2]
    unfold an_seen
    rw [ms_ix_nI (by omega), decide_eq_true hp, ms_nc (by omega)]
    rfl
  | false =>
    rw [if_neg (by decide)]
    unfold an_seen
    rw [ms_ix_lt0 (by decide), Bool.false_and, Bool.false_and]
theorem sl_ix {k : Nat} (hk : k < 2 ^ 31 - 1) : sl_in w (nI k) = ms_ix (k + 1) w := by
  rw [← md_in_sl]
  exact md_in_ix hk
theorem k_within (k : Nat) (hk : k < 2 ^ 31 - 1) {g : ms_S} : ms_Cl (d + 1) 133 [.int w, .int (nI k)] g (some (.int (ms_bi (ms_ix (k + 1) w)))) g := by
  rw [← sl_ix hk]
  exact c_within
theorem seen_k {p : Int32} (h : an_seen A p q = true) : ∃ i j, p = nI i ∧ q = nI j ∧ p.toNatClampNeg = i ∧ q.toNatClampNeg = j ∧ i < ab_p A ∧ j < 100 ∧ ab_s A i j = true := by
  unfold an_seen at h
  rw [Bool.and_eq_true, Bool.and_eq_true] at h
  obtain ⟨i, hi, e1, e2, _⟩ := ms_ix_k h.1
  obtain ⟨j, hj, f1, f2, _⟩ := ms_ix_k h.2.1
  refine ⟨i, j, e1, f1, e2, f2, hi, hj, ?_⟩
  have := h.2.2
  rw [e2, f2] at this
  exact this
theorem es_k {e : Int32} (h : an_es A e q = true) : ∃ i j, e = nI i ∧ q = nI j ∧ e.toNatClampNeg = i ∧ q.toNatClampNeg = j ∧ i < ab_e A ∧ j < 100 ∧ ab_es A i j = true := by
  unfold an_es at h
  rw [Bool.and_eq_true, Bool.and_eq_true] at h
  obtain ⟨i, hi, e1, e2, _⟩ := ms_ix_k h.1
  obtain ⟨j, hj, f1, f2, _⟩ := ms_ix_k h.2.1
  refine ⟨i, j, e1, f1, e2, f2, hi, hj, ?_⟩
  have := h.2.2
  rw [e2, f2] at this
  exact this
theorem LC_src (hL : LO L b) (h : LC A L X) (f : cx_fr (fO L) X Y) (e2 : cx_a Y (L + 1) p = nI (obits A p)) (e3 : ∀ i, i ≠ p → cx_a Y (L + 1) i = cx_a X (L + 1) i) : LC A L Y := by
  have eZ : ∀ c, L + 2 ≤ c ∧ c ≤ L + 8 → ∀ n, cx_a Y c n = cx_a X c n := fun c hc n => (f.1 c (by
    unfold fO
    rw [fL_C c (fC_no hL (by omega)), decide_eq_false (by omega)]
    rfl)).2 n
  intro q hq
  obtain ⟨g1, g2, g3⟩ := h q hq
  refine ⟨?_, ?_, ?_⟩
  · by_cases hqp : q = p
    · rw [hqp]; exact Or.inr e2
    · rw [e3 q hqp]; exact g1
  · rw [eZ _ (by omega)]
    refine g2.imp id (fun ⟨x, hx, hs⟩ => ⟨x, hx, SE_eq hs (eZ _ (by omega) _) (eZ _ (by omega) _) (eZ _ (by omega) _) (fun j _ => eZ _ (by omega) _)⟩)
  · rw [eZ _ (by omega)]
    refine g3.imp id (fun ⟨x, hx, r1, r2⟩ => ⟨x, hx, by rw [eZ _ (by omega)]; exact r1, fun k hk => by rw [eZ _ (by omega)]; exact r2 k hk⟩)
theorem k_srcs (h : CX A 6 X t) (hC : LC A 24 X) (hp : p < ab_p A) (hd : day < 2 ^ 31) : ms_H' (d + 6) 52 [.ref 24, .int (nI p), .int (nI day)] (ms_x X t) (fX A X t (nI (sbits A p day))) := by
  obtain ⟨r, g', ⟨Y, v, f, e1, e2, e3, e4, e5⟩, hc⟩ := k_sourcesOf (d := d) h LO_24 hp hd (hC p hp).1
  exact ⟨r, g', ⟨Y, v, fr_s f fO_E, e1, e2, e3, LC_src LO_24 hC f e4 e5⟩, hc⟩
theorem k_sett (h : CX A 6 X t) (hC : LC A 24 X) (hi : i ≤ s) (hs : s ≤ ab_p A) (hd : day < 2 ^ 31) : ms_H' (d + 7) 54 [.ref 24, .int (nI i), .int (nI s), .int (nI day)] (ms_x X t) (fN fE X t (fun Y => LC A 24 Y ∧ ∀ p, i ≤ p → p < s → ab_s A p day = true → SE A 24 Y p (sbits A p day))) := by
  obtain ⟨r, g', ⟨Y, f, e1, e2, e3⟩, hc⟩ := k_settle (d := d) h LO_24 hC hi hs hd
  exact ⟨r, g', ⟨Y, fr_s f fA_E, e1, e2, e3⟩, hc⟩
theorem k_least (h : CX A 6 X t) (hC : LC A 24 X) {p : Int32} : ms_H' (d + 8) 113 [.ref 0, .int p, .int q, .int w] (ms_x X t) (fX A X t (an_least A p q w)) := by
  refine mx_m (fun a b c => m_X8_least a b ⟨_, xo_0⟩ c) fV_l (b_X8_least_0 (ms_oR_i xf_0_2 (ms_c1_i (k_seenI h) ?_)))
  unfold an_least
  refine ms_ifT (fun hg => ?_) (fun hg => ?_)
  · rw [hg]
    exact ⟨X, _, fr_0, rfl, rfl, rfl, hC⟩
  obtain ⟨i, j, rfl, rfl, e1, e2, hi, hj, hs⟩ := seen_k hg
  rw [hg, e1, e2, Bool.true_and]
  refine ms_c1_i (k_within 2 (by decide)) (ms_ifT (fun hw => ?_) (fun hw => ?_))
  · rw [hw]
    exact ⟨X, _, fr_0, rfl, rfl, rfl, hC⟩
  rw [hw, if_pos rfl]
  refine ms_ite2 (fun z => ?_) (fun z => ?_)
  · refine ms_oR_i xf_0_5 (mx_v1 (k_srcs h hC hi (by omega)) (fun Y v fy ⟨e3, e4⟩ => ?_))
    rw [e3]
    have hb := sb_16 (A := A) (p := i) (day := j)
    refine ms_c1_i (c_bitCount (m := 16) (by decide) hb) ⟨Y, _, fy, rfl, rfl, ?_, e4⟩
    rw [if_neg (by rw [z]; decide), if_pos z, ones_src]
  · have hi1 : nI i + 1 = nI (i + 1) := ms_p1 1
    rw [hi1]
    refine ms_oR_i xf_0_5 (mx_n0 (k_sett h hC (by omega) (by omega) (by omega)) (fun Y fy ⟨e3, e4⟩ => ?_))
    have hse := e4 i (Nat.le_refl _) (by omega) hs
    have hY := h.fr fy
    refine ms_ite2 (fun z2 => ?_) (fun z2 => ?_)
    · refine ms_oR_i xf_0_5 (ms_c1_i (k_sumOf hY LO_24 hi) ⟨Y, _, fy, rfl, rfl, ?_, e3⟩)
      rw [hse.2.1, if_pos z2, sb_sl]
    · refine ms_oR_i xf_0_5 (ms_c1_i (k_bitsOf hY LO_24 hi) ⟨Y, _, fy, rfl, rfl, ?_, e3⟩)
      rw [hse.2.2.1, if_neg z2, if_neg z, sb_sl]
theorem k_source (h : CX A 6 X t) (hC : LC A 24 X) {p i : Int32} : ms_H' (d + 7) 114 [.ref 0, .int p, .int q, .int i] (ms_x X t) (fX A X t (an_source A p q i)) := by
  refine mx_m (fun a b c => m_X8_source a b ⟨_, xo_0⟩ c) fV_l (b_X8_source_0 (ms_oR_i xf_0_2 (ms_c1_i (k_seenI h) ?_)))
  unfold an_source
  refine ms_ifT (fun hg => ?_) (fun hg => ?_)
  · rw [hg]
    exact ⟨X, _, fr_0, rfl, rfl, rfl, hC⟩
  obtain ⟨a, j, rfl, rfl, e1, e2, hi, hj, hs⟩ := seen_k hg
  rw [hg, e1, e2, if_pos rfl]
  unfold an_nth
  refine ms_ite2 (fun z0 => ?_) (fun z0 => ?_)
  · refine ms_oR_i xf_0_5 (mx_v1 (k_srcs h hC hi (by omega)) (fun Y v fy ⟨e3, e4⟩ => ?_))
    rw [e3]
    have hb := sb_16 (A := A) (p := a) (day := j)
    have hsl := sb_sl (A := A) (p := a) (day := j)
    rw [← hsl]
    generalize sbits A a j = x at *
    suffices H : ∀ r o, o + r = 16 → (∀ m, ms_ix (sl x).length i = true → i = nI m → cnt x o ≤ m) → ms_V cd_X8_source none 1 (ms_Cl (d + 6)) (fX A X t (if ms_ix (sl x).length i then nI ((sl x).getD i.toNatClampNeg 0) else -1)) 35 [(3, .int i), (4, .int (nI x)), (5, .int (nI (cnt x o))), (6, .int (nI o))] [] (ms_x Y t) from H 16 0 rfl (fun m _ _ => Nat.zero_le m)
    have hl16 : (sl x).length ≤ 16 := by
      have := List.length_filter_le (fun o => x.testBit o) (List.range 16)
      rw [List.length_range] at this
      exact this
    intro r
    induction r with
    | zero =>
      intro o ho hm
      refine b_X8_source_35 (ms_yes ?_ ⟨Y, _, fy, rfl, rfl, ?_, e4⟩)
      · rw [show o = 16 by omega]; decide
      · cases hx : ms_ix (sl x).length i with
        | false => rfl
        | true =>
          obtain ⟨m, hm1, e5, _, _⟩ := ms_ix_k hx
          have := hm m hx e5
          have hc : cnt x o = (sl x).length := by rw [show o = 16 by omega]; rfl
          omega
    | succ r ih =>
      intro o ho hm
      have hcs := cnt_s (x := x) (o := o)
      refine b_X8_source_35 (ms_no ?_ ?_)
      · rw [show (16 : Int32) = nI 16 from rfl, ms_nle (by decide) (by omega)]
        omega
      rw [show nI o + 1 = nI (o + 1) from ms_p1 1]
      refine ms_ite2 (fun z => ?_) (fun z => ?_)
      · rw [bit_1 (by omega) (by omega)] at z
        have hso := sl_at (by omega) z
        obtain ⟨hsl2, _⟩ := List.getElem?_eq_some_iff.mp hso
        rw [z] at hcs
        refine ms_ite2 (fun z2 => ?_) (fun z2 => ?_)
        · refine ⟨Y, _, fy, rfl, rfl, ?_, e4⟩
          rw [← z2, ms_ix_nI (by omega), decide_eq_true hsl2, if_pos rfl, ms_nc (by omega), sl_getD (by omega) z]
        · rw [show nI (cnt x o) + 1 = nI (cnt x o + 1) from ms_p1 1]
          have H := ih (o + 1) (by omega) (fun m h1 h2 => by
            have := hm m h1 h2
            rw [hcs]
            by_cases he : cnt x o = m
            · exact absurd (by rw [he]; exact h2.symm) z2
            · show cnt x o + 1 ≤ m
              omega)
          rw [hcs] at H
          exact H
      · rw [bit_1 (by omega) (by omega)] at z
        rw [show x.testBit o = false by simpa using z] at hcs
        have H := ih (o + 1) (by omega) (fun m h1 h2 => by rw [hcs]; exact hm m h1 h2)
        rw [hcs] at H
        exact H
  · refine ⟨X, _, fr_0, rfl, rfl, ?_, hC⟩
    rw [ms_ix_lt0 (Int32.not_le.mp z0)]
    rfl
theorem k_from (h : CX A 6 X t) (hC : LC A 24 X) {e : Int32} : ms_H' (d + 8) 115 [.ref 0, .int e, .int q] (ms_x X t) (fX A X t (an_from A e q)) := by
  refine mx_m (fun a b c => m_X8_from a b ⟨_, xo_0⟩ c) fV_l (b_X8_from_0 (ms_oR_i xf_0_2 (ms_c1_i (k_pofI h) (ms_oR_i xf_0_2 (ms_c1_i (k_seenI h) ?_)))))
  unfold an_from
  rw [an_seen_es h.w]
  refine ms_ifT (fun hg => ?_) (fun hg => ?_)
  · rw [hg]
    exact ⟨X, _, fr_0, rfl, rfl, rfl, hC⟩
  obtain ⟨i, j, rfl, rfl, e1, e2, hi, hj, hs⟩ := es_k hg
  have hp := (h.w.2.2.2.2.1 i hi).1
  have hw1 := h.w.1
  have hei : ms_ix (ab_e A) (nI i) = true := by rw [ms_ix_nI (by omega), decide_eq_true hi]
  rw [hg, e1, e2, hei, if_pos rfl, if_pos rfl, show nI (ab_en A i 0) + 1 = nI (ab_en A i 0 + 1) from ms_p1 1]
  refine ms_oR_i xf_0_5 (mx_n0 (k_sett h hC (by omega) (by omega) (by omega)) (fun Y fy ⟨e3, e4⟩ => ?_))
  have hse := e4 _ (Nat.le_refl _) (by omega) hs
  refine ms_oR_i xf_0_5 (ms_c1_i (k_originOf (h.fr fy) LO_24 hi) ⟨Y, _, fy, rfl, rfl, ?_, e3⟩)
  have k := hse.2.2.2 (ab_n A i) (ab_n_lt hi)
  rw [q_e_n hi, sb_sl] at k
  exact k
theorem k_judge (h : CX A 6 X t) (hC : LC A 24 X) {p x : Int32} : ms_H' (d + 7) 116 [.ref 0, .int p, .int x, .int q] (ms_x X t) (fX A X t (an_judge A p x q)) := by
  refine mx_m (fun a b c => m_X8_judge a b ⟨_, xo_0⟩ c) fV_l (b_X8_judge_0 (ms_oR_i xf_0_2 (ms_c1_i (k_seenI h) ?_)))
  unfold an_judge
  refine ms_ifT (fun hg => ?_) (fun hg => ?_)
  · rw [hg]
    exact ⟨X, _, fr_0, rfl, rfl, rfl, hC⟩
  obtain ⟨a, j, rfl, rfl, e1, e2, hi, hj, hs⟩ := seen_k hg
  rw [hg, e1, e2, Bool.true_and]
  refine ms_oR_i xf_0_5 (mx_v1 (k_srcs h hC hi (by omega)) (fun Y v fy ⟨e3, e4⟩ => ?_))
  rw [e3]
  have hb := sb_16 (A := A) (p := a) (day := j)
  have h9 := sb_9 (A := A) (p := a) (day := j)
  have hpw : 2 ^ (ab_src A a j).length ≤ 512 := by rw [← sb_sl]; exact Nat.pow_le_pow_right (by decide) h9
  refine ms_ite2 (fun z => ?_) (fun z => ?_)
  · refine ⟨Y, _, fy, rfl, rfl, ?_, e4⟩
    rw [ms_ix_lt0 z]
    rfl
  refine ms_c1_i (c_bitCount (m := 16) (by decide) hb) ?_
  rw [ones_src, pw_nI (by rw [← sb_sl]; omega)]
  refine ms_ite2 (fun z2 => ?_) (fun z2 => ?_)
  · have hx : ms_ix (2 ^ (ab_src A a j).length) x = true := by
      refine ms_ix_in (by omega) z (Int32.not_le.mpr z2)
    obtain ⟨m, hm, e5, e6, _⟩ := ms_ix_k hx
    rw [hx, e6, e5, if_pos rfl]
    have hY := h.fr fy
    have hn := h.w.2.2.2.2.2 a
    refine ms_oR_i xf_0_4 (ms_oR_i xf_0_2 (mx_n0 (k_load hY hi hb (fun o ho => sb_p ho) h9) (fun Z fz hck => ?_)))
    rw [sb_sl] at hck
    refine ms_oR_i xf_0_4 (mx_q1 (k_sumWith hck hn hm) (fun W fw => ?_))
    have fE1 : cx_fr fC Y W := fr_t fz (fr_s fw fR_C)
    exact ⟨W, _, fr_t fy (fr_s fE1 fC_E), rfl, rfl, rfl, LC_keep LO_24 fE1 e4⟩
  · refine ⟨Y, _, fy, rfl, rfl, ?_, e4⟩
    rw [ms_ix_ge (by omega) (Int32.not_lt.mp z2)]
    rfl
end Cla
