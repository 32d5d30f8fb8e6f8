/-! THE MODEL: kind, apart, twice, alike, tree, births, drift, weight, run; written by wip/whole/mdl.py from mde.txt -/
def tF (A : ab_T) (e g w : Nat) (f : Nat) : Nat := if w = 4 ∧ ab_en A e (2 + f) = ab_th A (ab_en A e 1) f ∧ ¬ ab_en A g (2 + f) = ab_th A (ab_en A e 1) f ∨ w = 5 ∧ ¬ ab_en A e (2 + f) = ab_th A (ab_en A e 1) f ∧ ab_en A g (2 + f) = ab_th A (ab_en A e 1) f then 1 else 0
def alF (A : ab_T) (b : Bool) (e o : Nat) : Nat → Bool
  | 0 => b
  | f + 1 => alF A b e o f && decide (ab_en A o (2 + f) = ab_en A e (2 + f))
section Mde
variable {d i j k n p o e f u v x y s r c day m : Nat} {h t : ms_S} {M N L : md_T} {S' S2 : Nat → Bool} {A : ab_T} {S : List Nat} {P : Nat → Bool} {q w : Int32} {l : List Nat}
theorem n_kind (W : MX A M) {u v : Int32} : ms_H' (d + 4) 212 [.ref h.length, .int u, .int v] (ms_m h M t) (gX h M t (an_kind u v)) := by
  refine mx_m (fun a b c => m_X9_kind a b ⟨_, ms_m_0⟩ c) gQ_l (b_X9_kind_0 ?_)
  simp only [ms_oR_e, ms_oI_e, ms_oL_e, mm_f0, mm_p0]
  have f0 : md_fr gA M (md_ui M 0 0) := mr_i mr_0 rfl
  unfold an_kind
  refine ms_c1_i (n_inK 9999 (by decide) 9999 (by decide) _) (ms_ifT (fun hg => ?_) (fun hg => ?_))
  · rw [hg]
    exact ⟨_, f0, rfl, rfl⟩
  rw [hg, Bool.true_and]
  refine ms_c1_i (n_inK 9999 (by decide) 9999 (by decide) _) (ms_ifT (fun hg2 => ?_) (fun hg2 => ?_))
  · rw [hg2]
    exact ⟨_, f0, rfl, rfl⟩
  obtain ⟨i, hi, rfl, e2, _⟩ := ms_ix_k hg
  obtain ⟨j, hj, rfl, f2, _⟩ := ms_ix_k hg2
  rw [hg2, e2, f2, if_pos rfl]
  exact ms_c1_i (c9_kindOf (by omega) (by omega)) ⟨_, f0, rfl, rfl⟩
theorem n_apart (W : MX A M) {a c : Int32} : ms_H' (d + 7) 215 [.ref h.length, .int a, .int c, .int w] (ms_m h M t) (gX h M t (an_apart A a c w)) := by
  refine mx_m (fun a b c => m_X9_apart a b ⟨_, ms_m_0⟩ c) gQ_l (b_X9_apart_0 ?_)
  simp only [ms_oR_e, ms_oI_e, ms_oL_e, mm_f0, mm_p0]
  have w0 : MX A (md_ui M 0 0) := W
  have f0 : md_fr gA M (md_ui M 0 0) := mr_i mr_0 rfl
  unfold an_apart an_one
  refine ms_c1_i (n_entI w0) (ms_ifT (fun hg => ?_) (fun hg => ?_))
  · rw [hg]
    exact ⟨_, f0, rfl, rfl⟩
  rw [hg, Bool.true_and]
  refine ms_c1_i (n_entI w0) (ms_ifT (fun hg2 => ?_) (fun hg2 => ?_))
  · rw [hg2]
    exact ⟨_, f0, rfl, rfl⟩
  rw [hg2, Bool.true_and]
  obtain ⟨i, hi, rfl, e2, _⟩ := ms_ix_k hg
  obtain ⟨j, hj, rfl, f2, _⟩ := ms_ix_k hg2
  rw [e2, f2]
  refine ms_c1_i (n_inK 1 (by decide) 1 (by decide) _) (ms_ifT (fun hg3 => ?_) (fun hg3 => ?_))
  · rw [hg3, Bool.and_false]
    exact ⟨_, f0, rfl, rfl⟩
  rw [hg3, Bool.and_true]
  have t1 := W.1.2.2.2.1 i 1
  have t2 := W.1.2.2.2.1 j 1
  refine ms_c1_i (n_thingOf w0 hi) (ms_c1_i (n_thingOf w0 hj) (ms_ite2 (fun z => ?_) (fun z => ?_)))
  · rw [ms_nI_eq (by omega) (by omega)] at z
    rw [if_pos (decide_eq_true z)]
    obtain ⟨k, hk, rfl, k2, _⟩ := ms_ix_k hg3
    suffices H : ∀ r f, f + r = 4 → ms_V cd_X9_apart none 1 (ms_Cl (d + 6)) (gX h M t (if nI k = 1 then nI (ab_slips A i j) else nI (sm (fun f => if ab_en A i (2 + f) = ab_en A j (2 + f) then 0 else 1) 4))) 52 [(0, .ref h.length), (1, .int (nI i)), (2, .int (nI j)), (3, .int (nI k)), (4, .int (nI (sm (fun f => if ab_en A i (2 + f) = ab_en A j (2 + f) then 0 else 1) f))), (5, .int (nI f))] [] (ms_m h (md_ui M 0 0) t) from H 4 0 rfl
    intro r
    induction r with
    | zero =>
      intro f hf
      rw [show f = 4 by omega]
      refine b_X9_apart_52 (ms_yes (by decide) ?_)
      rcases (show k = 0 ∨ k = 1 by omega) with rfl | rfl
      · exact ms_yes rfl ⟨_, f0, rfl, rfl⟩
      · exact ms_no (by decide) (my_q1 (n_slips w0 hi hj) (fun N hf => ⟨N, mr_t f0 (mr_s hf zT_gA), rfl, rfl⟩))
    | succ r ih =>
      intro f hf
      have t3 := W.1.2.2.2.1 i (2 + f)
      have t4 := W.1.2.2.2.1 j (2 + f)
      have H := ih (f + 1) (by omega)
      rw [show sm (fun f => if ab_en A i (2 + f) = ab_en A j (2 + f) then 0 else 1) (f + 1) = sm (fun f => if ab_en A i (2 + f) = ab_en A j (2 + f) then 0 else 1) f + (if ab_en A i (2 + f) = ab_en A j (2 + f) then 0 else 1) from rfl] at H
      refine b_X9_apart_52 (ms_no ?_ (ms_c1_i (n_fieldOf w0 hi (by omega)) (ms_c1_i (n_fieldOf w0 hj (by omega)) ?_)))
      · rw [show (4 : Int32) = nI 4 from rfl, ms_nle (by decide) (by omega)]
        omega
      rw [show nI f + 1 = nI (f + 1) from ms_p1 1]
      refine ms_ite2 (fun z2 => ?_) (fun z2 => ?_)
      · rw [ms_nI_eq (by omega) (by omega)] at z2
        rw [if_pos z2] at H
        rw [show nI (sm (fun f => if ab_en A i (2 + f) = ab_en A j (2 + f) then 0 else 1) f) + 0 = nI (sm (fun f => if ab_en A i (2 + f) = ab_en A j (2 + f) then 0 else 1) f + 0) from ms_p1 0]
        exact H
      · rw [ms_nI_eq (by omega) (by omega)] at z2
        rw [if_neg z2] at H
        rw [show nI (sm (fun f => if ab_en A i (2 + f) = ab_en A j (2 + f) then 0 else 1) f) + 1 = nI (sm (fun f => if ab_en A i (2 + f) = ab_en A j (2 + f) then 0 else 1) f + 1) from ms_p1 1]
        exact H
  · rw [ms_nI_eq (by omega) (by omega)] at z
    rw [if_neg (by rw [decide_eq_false z]; decide)]
    exact ⟨_, f0, rfl, rfl⟩
theorem i64_1 : ∀ s, s < 1001 → Int32.toInt64 (1 + nI s) = 1 + Int32.toInt64 (nI s) := by decide +kernel
theorem n_twice (W : MX A M) {a c : Int32} : ms_H' (d + 6) 245 [.ref h.length, .int a, .int c] (ms_m h M t) (gXL h M t (an_twice A a c)) := by
  refine mx_m (fun a b c => m_X9_twice a b ⟨_, ms_m_0⟩ c) gXL_l (b_X9_twice_0 ?_)
  simp only [ms_oR_e, ms_oI_e, ms_oL_e, mm_f0, mm_p0]
  have w0 : MX A (md_ui M 0 0) := W
  have f0 : md_fr gA M (md_ui M 0 0) := mr_i mr_0 rfl
  unfold an_twice an_one
  refine ms_c1_i (n_entI w0) (ms_ifT (fun hg => ?_) (fun hg => ?_))
  · rw [hg]
    refine ⟨_, f0, rfl, ?_⟩
    split <;> rfl
  rw [hg, Bool.true_and]
  refine ms_c1_i (n_entI w0) (ms_ifT (fun hg2 => ?_) (fun hg2 => ?_))
  · rw [hg2]
    refine ⟨_, f0, rfl, ?_⟩
    split <;> rfl
  rw [hg2, Bool.true_and]
  refine ms_ite2 (fun z0 => ?_) (fun z0 => ?_)
  · rw [if_pos z0]
    exact ⟨_, f0, rfl, rfl⟩
  rw [if_neg z0]
  obtain ⟨i, hi, rfl, e2, _⟩ := ms_ix_k hg
  obtain ⟨j, hj, rfl, f2, _⟩ := ms_ix_k hg2
  rw [e2, f2]
  have t1 := W.1.2.2.2.1 i 1
  have t2 := W.1.2.2.2.1 j 1
  have ht := (W.1.2.2.2.2.1 i hi).2
  refine ms_c1_i (n_thingOf w0 hi) (ms_c1_i (n_thingOf w0 hj) (ms_ite2 (fun z => ?_) (fun z => ?_)))
  · rw [ms_nI_eq (by omega) (by omega)] at z
    rw [if_pos (decide_eq_true z)]
    suffices H : ∀ r f N, f + r = 4 → md_fr gA M N → ms_V cd_X9_twice none 2 (ms_Cl (d + 5)) (gXL h M t (ab_tw A i j 4)) 48 [(0, .ref h.length), (1, .int (nI i)), (2, .int (nI j)), (3, .long (ab_tw A i j f)), (5, .int (nI f))] [] (ms_m h N t) from H 4 0 _ rfl f0
    intro r
    induction r with
    | zero =>
      intro f N hf fN
      rw [show f = 4 by omega]
      exact b_X9_twice_48 (ms_yes (by decide) ⟨N, fN, rfl, rfl⟩)
    | succ r ih =>
      intro f N hf fN
      have wN := W.fr fN rfl
      have t3 := W.1.2.2.2.1 i (2 + f)
      have t4 := W.1.2.2.2.1 j (2 + f)
      have t5 := W.1.2.1 (ab_en A i 1) f
      refine b_X9_twice_48 (ms_no ?_ (ms_c1_i (n_fieldOf wN hi (by omega)) (ms_c1_i (n_fieldOf wN hj (by omega)) ?_)))
      · rw [show (4 : Int32) = nI 4 from rfl, ms_nle (by decide) (by omega)]
        omega
      rw [show nI f + 1 = nI (f + 1) from ms_p1 1]
      have skip : ¬ (ab_en A i (2 + f) = ab_en A j (2 + f) ∧ ab_en A i (2 + f) ≠ ab_th A (ab_en A i 1) f) → ms_V cd_X9_twice none 2 (ms_Cl (d + 5)) (gXL h M t (ab_tw A i j 4)) 48 [(0, .ref h.length), (1, .int (nI i)), (2, .int (nI j)), (3, .long (ab_tw A i j f)), (5, .int (nI (f + 1)))] [] (ms_m h N t) := by
        intro hno
        have H := ih (f + 1) N (by omega) fN
        rw [show ab_tw A i j (f + 1) = ab_tw A i j f by rw [ab_tw, if_neg hno]] at H
        exact H
      refine ms_ite2 (fun z1 => ?_) (fun z1 => ?_)
      · rw [ms_nI_eq (by omega) (by omega)] at z1
        refine ms_c1_i (n_fieldOf wN hi (by omega)) (ms_c1_i (n_rightOf wN hi (by omega)) (ms_ite2 (fun z2 => ?_) (fun z2 => ?_)))
        · rw [ms_nI_eq (by omega) (by omega)] at z2
          exact skip (fun q => q.2 z2)
        · rw [ms_nI_eq (by omega) (by omega)] at z2
          refine ms_c1_i (n_thingOf wN hi) (ms_c1_i (n_rightOf wN hi (by omega)) (ms_c1_i (n_fieldOf wN hi (by omega)) ?_))
          refine my_q1 (n_slip wN ht (W.1.2.1 _ _) (W.1.2.2.2.1 _ _)) (fun L hL => ?_)
          have H := ih (f + 1) L (by omega) (mr_t fN (mr_s hL zT_gA))
          rw [show ab_tw A i j (f + 1) = ab_tw A i j f * (Int32.toInt64 (1 + nI (ab_slip A (ab_en A i 1) f (ab_th A (ab_en A i 1) f) (ab_en A i (2 + f))))) by rw [ab_tw, if_pos ⟨z1, z2⟩], i64_1 _ (by have := ab_slip_le (A := A) (i := ab_en A i 1) (f := f) (u := ab_th A (ab_en A i 1) f) (v := ab_en A i (2 + f)); omega)] at H
          exact H
      · rw [ms_nI_eq (by omega) (by omega)] at z1
        exact skip (fun q => z1 q.1)
  · rw [ms_nI_eq (by omega) (by omega)] at z
    rw [if_neg (by rw [decide_eq_false z]; decide)]
    exact ⟨_, f0, rfl, rfl⟩
theorem alF_al (b : Bool) : alF A (b && decide (ab_en A o 1 = ab_en A e 1)) e o 4 = (b && ab_al A e o) := by
  unfold ab_al
  simp only [alF, Bool.and_assoc]
theorem n_alike (W : MX A M) {e : Int32} : ms_H' (d + 4) 246 [.ref h.length, .int e, .int q] (ms_m h M t) (gX h M t (an_alike A e q)) := by
  refine mx_m (fun a b c => m_X9_alike a b ⟨_, ms_m_0⟩ c) gQ_l (b_X9_alike_0 ?_)
  simp only [ms_oR_e, ms_oI_e, ms_oL_e, mm_f0, mm_p0]
  have w0 : MX A (md_ui M 0 0) := W
  have f0 : md_fr gA M (md_ui M 0 0) := mr_i mr_0 rfl
  have w1 := W.1.1
  unfold an_alike
  refine ms_c1_i (n_entI w0) (ms_ifT (fun hg => ?_) (fun hg => ?_))
  · rw [hg]
    exact ⟨_, f0, rfl, rfl⟩
  rw [hg, Bool.true_and]
  refine ms_c1_i (n_day _) (ms_ifT (fun hg2 => ?_) (fun hg2 => ?_))
  · rw [hg2]
    exact ⟨_, f0, rfl, rfl⟩
  rw [hg2, if_pos rfl]
  obtain ⟨i, hi, rfl, e2, _⟩ := ms_ix_k hg
  obtain ⟨j, hj, rfl, f2, _⟩ := ms_ix_k hg2
  rw [e2, f2]
  suffices H : ∀ r o, o + r = ab_e A → ms_V cd_X9_alike none 1 (ms_Cl (d + 3)) (gX h M t (nI (sm (fun o => if ab_es A o j && ab_al A i o then 1 else 0) (ab_e A)))) 27 [(0, .ref h.length), (1, .int (nI i)), (2, .int (nI j)), (3, .int (nI (sm (fun o => if ab_es A o j && ab_al A i o then 1 else 0) o))), (4, .int (nI o))] [] (ms_m h (md_ui M 0 0) t) from H (ab_e A) 0 (by omega)
  intro r
  induction r with
  | zero =>
    intro o ho
    refine b_X9_alike_27 (ms_oR_i mm_f3 (n_ec w0 ?_))
    refine ms_yes ((ms_nle (by omega) (by omega)).mpr (by omega)) ⟨_, f0, rfl, ?_⟩
    rw [show ab_e A = o by omega]
  | succ r ih =>
    intro o ho
    have hp := (W.1.2.2.2.2.1 o (by omega)).1
    have H := ih (o + 1) (by omega)
    rw [show sm (fun o => if ab_es A o j && ab_al A i o then 1 else 0) (o + 1) = sm (fun o => if ab_es A o j && ab_al A i o then 1 else 0) o + (if ab_es A o j && ab_al A i o then 1 else 0) from rfl] at H
    have t1 := W.1.2.2.2.1 o 1
    have t2 := W.1.2.2.2.1 i 1
    have hin : ∀ r2 f b, f + r2 = 4 → b = alF A (ab_es A o j && decide (ab_en A o 1 = ab_en A i 1)) i o f → ms_V cd_X9_alike none 1 (ms_Cl (d + 3)) (gX h M t (nI (sm (fun o => if ab_es A o j && ab_al A i o then 1 else 0) (ab_e A)))) 76 [(0, .ref h.length), (1, .int (nI i)), (2, .int (nI j)), (3, .int (nI (sm (fun o => if ab_es A o j && ab_al A i o then 1 else 0) o))), (4, .int (nI o)), (5, .int (ms_bi b)), (6, .int (nI f))] [] (ms_m h (md_ui M 0 0) t) := by
      intro r2
      induction r2 with
      | zero =>
        intro f b hf hb
        rw [show f = 4 by omega] at hb ⊢
        rw [alF_al] at hb
        refine b_X9_alike_76 (ms_yes (by decide) ?_)
        rw [show nI o + 1 = nI (o + 1) from ms_p1 1]
        rw [← hb] at H
        refine ms_ifT (fun hg => ?_) (fun hg => ?_)
        · rw [hg] at H
          rw [show nI (sm (fun o => if ab_es A o j && ab_al A i o then 1 else 0) o) + 0 = nI (sm (fun o => if ab_es A o j && ab_al A i o then 1 else 0) o + 0) from ms_p1 0]
          exact H
        · rw [hg] at H
          rw [show nI (sm (fun o => if ab_es A o j && ab_al A i o then 1 else 0) o) + 1 = nI (sm (fun o => if ab_es A o j && ab_al A i o then 1 else 0) o + 1) from ms_p1 1]
          exact H
      | succ r2 ih2 =>
        intro f b hf hb
        have t3 := W.1.2.2.2.1 o (2 + f)
        have t4 := W.1.2.2.2.1 i (2 + f)
        refine b_X9_alike_76 (ms_no ?_ ?_)
        · rw [show (4 : Int32) = nI 4 from rfl, ms_nle (by decide) (by omega)]
          omega
        rw [show nI f + 1 = nI (f + 1) from ms_p1 1]
        refine ms_ifT (fun hg => ?_) (fun hg => ?_)
        · exact ih2 (f + 1) false (by omega) (by rw [alF, ← hb, hg]; rfl)
        · refine ms_c1_i (n_fieldOf w0 (by omega) (by omega)) (ms_c1_i (n_fieldOf w0 hi (by omega)) (ms_ite2 (fun z => ?_) (fun z => ?_)))
          · rw [ms_nI_eq (by omega) (by omega)] at z
            exact ih2 (f + 1) true (by omega) (by rw [alF, ← hb, hg, decide_eq_true z]; rfl)
          · rw [ms_nI_eq (by omega) (by omega)] at z
            exact ih2 (f + 1) false (by omega) (by rw [alF, ← hb, hg, decide_eq_false z]; rfl)
    refine b_X9_alike_27 (ms_oR_i mm_f3 (n_ec w0 ?_))
    refine ms_no (fun z => by rw [ms_nle (by omega) (by omega)] at z; omega) (ms_c1_i (n_paperOf w0 (by omega)) (ms_c1_i (n_isSeen w0 hj (by omega)) (ms_ifT (fun hg => ?_) (fun hg => ?_))))
    · exact hin 4 0 false rfl (by rw [alF, show ab_es A o j = false from hg]; rfl)
    · refine ms_c1_i (n_thingOf w0 (by omega)) (ms_c1_i (n_thingOf w0 hi) (ms_ite2 (fun z => ?_) (fun z => ?_)))
      · rw [ms_nI_eq (by omega) (by omega)] at z
        exact hin 4 0 true rfl (by rw [alF, show ab_es A o j = true from hg, decide_eq_true z]; rfl)
      · rw [ms_nI_eq (by omega) (by omega)] at z
        exact hin 4 0 false rfl (by rw [alF, show ab_es A o j = true from hg, decide_eq_false z]; rfl)
theorem tF_sum (hw : n < 6) : (if n = 2 then 1 else 0) + sm (tF A e f n) 4 = if n = 2 then 1 else if n = 4 then ab_mr A e f e else if n = 5 then ab_mr A e e f else 0 := by
  have z : ∀ w, w ≠ 4 → w ≠ 5 → sm (tF A e f w) 4 = 0 := by
    intro w h1 h2
    have : tF A e f w = fun _ => 0 := by
      funext k
      unfold tF
      exact if_neg (fun q => q.elim (fun a => h1 a.1) (fun a => h2 a.1))
    rw [this]
    rfl
  rcases (show n = 0 ∨ n = 1 ∨ n = 2 ∨ n = 3 ∨ n = 4 ∨ n = 5 by omega) with rfl | rfl | rfl | rfl | rfl | rfl
  · rw [z 0 (by decide) (by decide)]; rfl
  · rw [z 1 (by decide) (by decide)]; rfl
  · rw [z 2 (by decide) (by decide)]; rfl
  · rw [z 3 (by decide) (by decide)]; rfl
  · show 0 + sm (tF A e f 4) 4 = ab_mr A e f e
    rw [Nat.zero_add]
    refine sm_congr 4 (fun k hk => ?_)
    unfold tF
    by_cases hc : ab_en A e (2 + k) = ab_th A (ab_en A e 1) k ∧ ab_en A f (2 + k) ≠ ab_th A (ab_en A e 1) k
    · rw [if_pos hc, if_pos (Or.inl ⟨rfl, hc.1, hc.2⟩)]
    · rw [if_neg hc, if_neg (fun q => q.elim (fun a => hc ⟨a.2.1, a.2.2⟩) (fun a => absurd a.1 (by decide)))]
  · show 0 + sm (tF A e f 5) 4 = ab_mr A e e f
    rw [Nat.zero_add]
    refine sm_congr 4 (fun k hk => ?_)
    unfold tF
    by_cases hc : ab_en A f (2 + k) = ab_th A (ab_en A e 1) k ∧ ab_en A e (2 + k) ≠ ab_th A (ab_en A e 1) k
    · rw [if_pos hc, if_pos (Or.inr ⟨rfl, hc.2, hc.1⟩)]
    · rw [if_neg hc, if_neg (fun q => q.elim (fun a => absurd a.1 (by decide)) (fun a => hc ⟨a.2.2, a.2.1⟩))]
theorem n_treeOf (W : MX A M) (hT : MT2 A day M) (he : e < ab_e A) (hn : n < 6) : ms_Cl (d + 4) 234 [.ref h.length, .int (nI e), .int (nI n)] (ms_m h M t) (some (.int (nI (ab_tp A day n e)))) (ms_m h M t) := by
  have w1 := W.1.1
  have hth := (W.1.2.2.2.2.1 e he).2
  refine m_X9_treeOf (Nat.le_refl _) (Nat.le_refl _) ⟨_, ms_m_0⟩ (b_X9_treeOf_0 (Q := ms_lf _ _) (ms_oR_i mm_f40 ?_))
  rw [mm_r40]
  refine ⟨ms_in (by omega) (by decide), ?_⟩
  rw [ms_nc (by omega), hT.1 e he]
  unfold ab_tp
  have hin : ∀ f, ab_or A e day = some f → f < ab_e A := fun f hf => (ab_or_in he hf).1
  by_cases hes : ab_es A e day = true
  · rw [if_pos hes, if_pos hes]
    cases ho : ab_or A e day with
    | none =>
      refine ms_no (by decide) (ms_oR_i mm_f40 ?_)
      rw [mm_r40]
      refine ⟨ms_in (by omega) (by decide), ?_⟩
      rw [ms_nc (by omega), hT.1 e he, if_pos hes, ho]
      refine ms_yes rfl (ms_c1_i (n_thingOf W he) (ms_c1_i (n_isGhost W hth) (ms_ifT (fun hg => ?_) (fun hg => ?_))))
      · rw [hg]
        refine ms_ite2 (fun z => ?_) (fun z => ?_)
        · rw [show (1 : Int32) = nI 1 from rfl, ms_nI_eq (by omega) (by decide)] at z
          rw [z]
          exact ⟨rfl, rfl⟩
        · rw [show (1 : Int32) = nI 1 from rfl, ms_nI_eq (by omega) (by decide)] at z
          refine ⟨?_, rfl⟩
          show some (Value.int 0) = some (.int (nI (if n = 1 then 1 else 0)))
          rw [if_neg z]
          rfl
      · rw [hg]
        refine ms_ite2 (fun z => ?_) (fun z => ?_)
        · rw [show (3 : Int32) = nI 3 from rfl, ms_nI_eq (by omega) (by decide)] at z
          rw [z]
          exact ⟨rfl, rfl⟩
        · rw [show (3 : Int32) = nI 3 from rfl, ms_nI_eq (by omega) (by decide)] at z
          refine ⟨?_, rfl⟩
          show some (Value.int 0) = some (.int (nI (if n = 3 then 1 else 0)))
          rw [if_neg z]
          rfl
    | some g =>
      have hg := hin g ho
      have hgN : nI g ≠ -2 := by
        intro z
        have := ms_nI_0 (n := g) (by omega)
        rw [z] at this
        exact absurd this (by decide)
      have hM : md_a M 40 e = nI g := by rw [hT.1 e he, if_pos hes, ho]; rfl
      refine ms_no hgN (ms_oR_i mm_f40 ?_)
      rw [mm_r40]
      refine ⟨ms_in (by omega) (by decide), ?_⟩
      rw [ms_nc (by omega), hM]
      refine ms_no (nI_m1 (x := g) (by omega)) ?_
      simp only
      rw [← tF_sum (A := A) (e := e) (f := g) hn]
      suffices H : ∀ r k, k + r = 4 → ms_V cd_X9_treeOf none 1 (ms_Cl (d + 3)) (ms_lf (some (.int (nI ((if n = 2 then 1 else 0) + sm (tF A e g n) 4)))) (ms_m h M t)) 64 [(0, .ref h.length), (1, .int (nI e)), (2, .int (nI n)), (3, .int (nI ((if n = 2 then 1 else 0) + sm (tF A e g n) k))), (4, .int (nI k))] [] (ms_m h M t) by
        have H0 := H 4 0 rfl
        refine ms_ite2 (fun z => ?_) (fun z => ?_)
        · rw [show (2 : Int32) = nI 2 from rfl, ms_nI_eq (by omega) (by decide)] at z
          rw [if_pos z] at H0 ⊢
          exact H0
        · rw [show (2 : Int32) = nI 2 from rfl, ms_nI_eq (by omega) (by decide)] at z
          rw [if_neg z] at H0 ⊢
          exact H0
      intro r
      induction r with
      | zero =>
        intro k hk
        rw [show k = 4 by omega]
        exact b_X9_treeOf_64 (ms_yes (by decide) ⟨rfl, rfl⟩)
      | succ r ih =>
        intro k hk
        have H := ih (k + 1) (by omega)
        rw [show sm (tF A e g n) (k + 1) = sm (tF A e g n) k + tF A e g n k from rfl, ← Nat.add_assoc] at H
        have t1 := W.1.2.2.2.1 e (2 + k)
        have t2 := W.1.2.2.2.1 g (2 + k)
        have t3 := W.1.2.1 (ab_en A e 1) k
        have add : ∀ v, nI v + 0 = nI (v + 0) ∧ nI v + 1 = nI (v + 1) := fun v => ⟨ms_p1 0, ms_p1 1⟩
        generalize (if n = 2 then 1 else 0) + sm (tF A e g n) k = T at *
        have e121 : ∀ R Wa : Bool, (R = true ↔ ab_en A e (2 + k) = ab_th A (ab_en A e 1) k) → (Wa = true ↔ ab_en A g (2 + k) = ab_th A (ab_en A e 1) k) → ms_V cd_X9_treeOf none 1 (ms_Cl (d + 3)) (ms_lf (some (.int (nI ((if n = 2 then 1 else 0) + sm (tF A e g n) 4)))) (ms_m h M t)) 121 [(0, .ref h.length), (1, .int (nI e)), (2, .int (nI n)), (3, .int (nI T)), (4, .int (nI k)), (5, .int (ms_bi R))] [.int (ms_bi Wa)] (ms_m h M t) := by
          intro R Wa hR hW
          refine b_X9_treeOf_121 ?_
          rw [show nI k + 1 = nI (k + 1) from ms_p1 1, (add T).1, (add T).2]
          have c4 : (nI n = 4) ↔ n = 4 := Iff.of_eq (ms_nI_eq (m := 4) (by omega) (by decide))
          have c5 : (nI n = 5) ↔ n = 5 := Iff.of_eq (ms_nI_eq (m := 5) (by omega) (by decide))
          have v0 : ¬ (n = 4 ∧ ab_en A e (2 + k) = ab_th A (ab_en A e 1) k ∧ ¬ ab_en A g (2 + k) = ab_th A (ab_en A e 1) k ∨ n = 5 ∧ ¬ ab_en A e (2 + k) = ab_th A (ab_en A e 1) k ∧ ab_en A g (2 + k) = ab_th A (ab_en A e 1) k) → ms_V cd_X9_treeOf none 1 (ms_Cl (d + 3)) (ms_lf (some (.int (nI ((if n = 2 then 1 else 0) + sm (tF A e g n) 4)))) (ms_m h M t)) 64 [(0, .ref h.length), (1, .int (nI e)), (2, .int (nI n)), (3, .int (nI (T + 0))), (4, .int (nI (k + 1)))] [] (ms_m h M t) := by
            intro hno
            rw [show tF A e g n k = 0 from if_neg hno] at H
            exact H
          have v1 : (n = 4 ∧ ab_en A e (2 + k) = ab_th A (ab_en A e 1) k ∧ ¬ ab_en A g (2 + k) = ab_th A (ab_en A e 1) k ∨ n = 5 ∧ ¬ ab_en A e (2 + k) = ab_th A (ab_en A e 1) k ∧ ab_en A g (2 + k) = ab_th A (ab_en A e 1) k) → ms_V cd_X9_treeOf none 1 (ms_Cl (d + 3)) (ms_lf (some (.int (nI ((if n = 2 then 1 else 0) + sm (tF A e g n) 4)))) (ms_m h M t)) 64 [(0, .ref h.length), (1, .int (nI e)), (2, .int (nI n)), (3, .int (nI (T + 1))), (4, .int (nI (k + 1)))] [] (ms_m h M t) := by
            intro hno
            rw [show tF A e g n k = 1 from if_pos hno] at H
            exact H
          have nR : R = false → ¬ ab_en A e (2 + k) = ab_th A (ab_en A e 1) k := fun z q => by rw [hR.mpr q] at z; cases z
          have nW : Wa = false → ¬ ab_en A g (2 + k) = ab_th A (ab_en A e 1) k := fun z q => by rw [hW.mpr q] at z; cases z
          refine ms_ite2 (fun z4 => ?_) (fun z4 => ?_)
          · rw [c4] at z4
            have n5 : ¬ nI n = 5 := fun q => by rw [c5] at q; omega
            refine ms_ifT (fun r0 => ?_) (fun r1 => ?_)
            · refine ms_no n5 (v0 ?_)
              have := nR r0
              omega
            · have r2 := hR.mp r1
              refine ms_ifT (fun w0 => ?_) (fun w1 => ?_)
              · exact v1 (Or.inl ⟨z4, r2, nW w0⟩)
              · have w2 := hW.mp w1
                refine ms_no n5 (v0 ?_)
                omega
          · rw [c4] at z4
            refine ms_ite2 (fun z5 => ?_) (fun z5 => ?_)
            · rw [c5] at z5
              refine ms_ifT (fun r0 => ?_) (fun r1 => ?_)
              · have r2 := nR r0
                refine ms_ifT (fun w0 => ?_) (fun w1 => ?_)
                · have w2 := nW w0
                  exact v0 (by omega)
                · exact v1 (Or.inr ⟨z5, r2, hW.mp w1⟩)
              · have r2 := hR.mp r1
                exact v0 (by omega)
            · rw [c5] at z5
              exact v0 (by omega)
        have e92 : ∀ R : Bool, (R = true ↔ ab_en A e (2 + k) = ab_th A (ab_en A e 1) k) → ms_V cd_X9_treeOf none 1 (ms_Cl (d + 3)) (ms_lf (some (.int (nI ((if n = 2 then 1 else 0) + sm (tF A e g n) 4)))) (ms_m h M t)) 92 [(0, .ref h.length), (1, .int (nI e)), (2, .int (nI n)), (3, .int (nI T)), (4, .int (nI k))] [.int (ms_bi R)] (ms_m h M t) := by
          intro R hR
          refine b_X9_treeOf_92 (ms_oR_i mm_f40 ?_)
          rw [mm_r40]
          refine ⟨ms_in (by omega) (by decide), ?_⟩
          rw [ms_nc (by omega), hM]
          refine ms_c1_i (n_fieldOf W hg (by omega)) (ms_c1_i (n_rightOf W he (by omega)) (ms_ite2 (fun z => ?_) (fun z => ?_)))
          · rw [ms_nI_eq (by omega) (by omega)] at z
            exact e121 R true hR ⟨fun _ => z, fun _ => rfl⟩
          · rw [ms_nI_eq (by omega) (by omega)] at z
            exact e121 R false hR ⟨fun q => (by cases q), fun q => absurd q z⟩
        refine b_X9_treeOf_64 (ms_no ?_ (ms_c1_i (n_fieldOf W he (by omega)) (ms_c1_i (n_rightOf W he (by omega)) (ms_ite2 (fun z => ?_) (fun z => ?_)))))
        · rw [show (4 : Int32) = nI 4 from rfl, ms_nle (by decide) (by omega)]
          omega
        · rw [ms_nI_eq (by omega) (by omega)] at z
          exact e92 true ⟨fun _ => z, fun _ => rfl⟩
        · rw [ms_nI_eq (by omega) (by omega)] at z
          exact e92 false ⟨fun q => (by cases q), fun q => absurd q z⟩
  · rw [if_neg hes, if_neg hes]
    exact ms_yes rfl ⟨rfl, rfl⟩
theorem n_tree (W : MX A M) : ms_H' (d + 11) 235 [.ref h.length, .int q, .int w] (ms_m h M t) (gX h M t (an_tree A q w)) := by
  refine mx_m (fun a b c => m_X9_tree a b ⟨_, ms_m_0⟩ c) gQ_l (b_X9_tree_0 ?_)
  simp only [ms_oR_e, ms_oI_e, ms_oL_e, mm_f0, mm_p0]
  have w0 : MX A (md_ui M 0 0) := W
  have f0 : md_fr gA M (md_ui M 0 0) := mr_i mr_0 rfl
  have w1 := W.1.1
  unfold an_tree
  refine ms_c1_i (n_day _) (ms_ifT (fun hg => ?_) (fun hg => ?_))
  · rw [hg]
    exact ⟨_, f0, rfl, rfl⟩
  rw [hg, Bool.true_and]
  refine ms_c1_i (n_inK 5 (by decide) 5 (by decide) _) (ms_ifT (fun hg2 => ?_) (fun hg2 => ?_))
  · rw [hg2]
    exact ⟨_, f0, rfl, rfl⟩
  rw [hg2, if_pos rfl]
  obtain ⟨j, hj, rfl, e2, _⟩ := ms_ix_k hg
  obtain ⟨n, hn, rfl, f2, _⟩ := ms_ix_k hg2
  rw [e2, f2]
  refine my_n0 (n_findTree (d := d) w0 hj) (fun N hf hT => ?_)
  have fN : md_fr gA M N := mr_t f0 hf
  have wN := W.fr fN rfl
  suffices H : ∀ r e, e + r = ab_e A → ms_V cd_X9_tree none 1 (ms_Cl (d + 10)) (gX h M t (if nI n = 0 then nI (ab_ts A j) else nI (sm (ab_tp A j n) (ab_e A)))) 36 [(0, .ref h.length), (2, .int (nI n)), (3, .int (nI (sm (ab_tp A j n) e))), (4, .int (nI e))] [] (ms_m h N t) from H (ab_e A) 0 (by omega)
  intro r
  induction r with
  | zero =>
    intro e he
    refine b_X9_tree_36 (ms_oR_i mm_f3 (n_ec wN ?_))
    refine ms_yes ((ms_nle (by omega) (by omega)).mpr (by omega)) (ms_ite2 (fun z => ?_) (fun z => ?_))
    · rw [if_pos z]
      exact ms_oI_i mm_f41 ⟨N, fN, rfl, by rw [hT.2]⟩
    · rw [if_neg z]
      refine ⟨N, fN, rfl, ?_⟩
      rw [show ab_e A = e by omega]
  | succ r ih =>
    intro e he
    have H := ih (e + 1) (by omega)
    rw [show sm (ab_tp A j n) (e + 1) = sm (ab_tp A j n) e + ab_tp A j n e from rfl] at H
    refine b_X9_tree_36 (ms_oR_i mm_f3 (n_ec wN ?_))
    refine ms_no (fun z => by rw [ms_nle (by omega) (by omega)] at z; omega) (ms_c1_i (ms_Cl_mono (by omega) (n_treeOf (d := d) wN hT (by omega) hn)) ?_)
    rw [show nI e + 1 = nI (e + 1) from ms_p1 1, ms_p1]
    exact H
end Mde
