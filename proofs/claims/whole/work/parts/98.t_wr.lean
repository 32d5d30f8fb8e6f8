/-! THE MODEL'S call world: the row kept aside; written by wip/whole/mdl.py from t_wr.txt -/
def gV3 (h : ms_S) (M : md_T) (t : ms_S) (a : Int32) (r : Option Value) (g' : ms_S) : Prop := ∃ N, md_fr (fun k => gW k || decide (k = 3)) M N ∧ (∀ j, md_a N 3 j = md_a M 3 j) ∧ g' = ms_m h N t ∧ r = some (.int a)
section Wr
variable {d i j k n p o e f u v x y s r c m w cl : Nat} {h t : ms_S} {M N L : md_T} {A A0 : ab_T}
def trn (A : ab_T) (n : Nat) : Nat := sm (fun i => if ab_gh A i then 0 else 1) n
theorem trn_0 : ∀ n, trn A n = 0 ↔ tru A n = false
  | 0 => ⟨fun _ => rfl, fun _ => rfl⟩
  | n + 1 => by
    have ih := trn_0 n
    have h1 : trn A (n + 1) = trn A n + (if ab_gh A n then 0 else 1) := rfl
    have h2 : tru A (n + 1) = (tru A n || !ab_gh A n) := any_s
    rw [h1, h2]
    cases hg : ab_gh A n with
    | true =>
      rw [if_pos rfl, Nat.add_zero, ih]
      cases tru A n <;> exact Iff.rfl
    | false =>
      rw [if_neg (by decide)]
      constructor
      · intro z
        omega
      · intro z
        rw [show (!false) = true from rfl, Bool.or_true] at z
        cases z
theorem trn_le : ∀ n, trn A n ≤ n
  | 0 => Nat.le_refl _
  | n + 1 => by
    have := trn_le n
    have h1 : trn A (n + 1) = trn A n + (if ab_gh A n then 0 else 1) := rfl
    rw [h1]
    split <;> omega
theorem gV3_l {a : Int32} : ∀ r g', gV3 h M t a r g' → (ms_m h M t).length ≤ g'.length ∧ ms_tot (ms_m h M t) ≤ ms_tot g' := by
  rintro r g' ⟨N, hf, _, rfl, _⟩
  exact ⟨ms_m_l, ms_m_t⟩
theorem MX_3 (w : MX A M) (h : ∀ j, md_a N 3 j = md_a M 3 j) : MX A N := by
  have e : md_a N 3 = md_a M 3 := funext h
  unfold MX
  rw [e]
  exact w
theorem n_world (w0 : MX A M) {q m u : Int32} : ms_H' (d + 12) 253 [.ref h.length, .int q, .int m, .int u] (ms_m h M t) (gV3 h M t (wd_an A q m u)) := by
  refine mx_m (fun a b c => m_X9_world a b ⟨_, ms_m_0⟩ c) gV3_l (b_X9_world_0 ?_)
  simp only [ms_oR_e, ms_oI_e, ms_oL_e, mm_f0, mm_p0]
  have h8 := w0.1.1.1
  have w1 : MX A (md_ui M 0 0) := w0
  have fW : md_fr (fun k => gW k || decide (k = 3)) M (md_ui M 0 0) := mr_i mr_0 rfl
  have e1 : ∀ j, md_a (md_ui M 0 0) 3 j = md_a M 3 j := fun j => rfl
  generalize md_ui M 0 0 = N1 at w1 fW e1 ⊢
  -- the world
  have body : ∀ s n w, s < 1000003 → n ≤ 8 → w < 4 → ms_V cd_X9_world none 1 (ms_Cl (d + 11)) (gV3 h M t (nI (wd_v (gWo A s n) w))) 95 [(0, .ref h.length), (1, .int (nI s)), (2, .int (nI n)), (3, .int (nI w)), (5, .int (nI 0))] [] (ms_m h N1 t) := by
    intro s n w hs hn hw
    suffices H : ∀ r i N, i + r = 946 → md_fr (fun k => gW k || decide (k = 3)) M N → (∀ j, md_a N 3 j = md_a M 3 j) → (∀ j, j < i → md_a N 4 j = md_a M 3 j) → ms_V cd_X9_world none 1 (ms_Cl (d + 11)) (gV3 h M t (nI (wd_v (gWo A s n) w))) 95 [(0, .ref h.length), (1, .int (nI s)), (2, .int (nI n)), (3, .int (nI w)), (5, .int (nI i))] [] (ms_m h N t) from H 946 0 N1 rfl fW e1 (fun j hj => absurd hj (Nat.not_lt_zero _))
    intro r
    induction r with
    | zero =>
      intro i N hi hf h3 h4
      have e : i = 946 := by omega
      subst e
      refine b_X9_world_95 (ms_yes (by decide) ?_)
      obtain ⟨r0, g0, ⟨N2, f2, e1, e2⟩, hc⟩ := n_worldOf (d := d) (h := h) (t := t) (MX_3 w0 h3) hs hn hw
      rw [e1, e2] at hc
      refine ms_c1_i hc ?_
      have f23 : md_fr (fun k => gW k || decide (k = 3)) M N2 := by
        refine mr_t hf (mr_s f2.1 (fun c hc => ?_))
        obtain ⟨h1, h2⟩ := Bool.or_eq_false_iff.mp hc
        obtain ⟨h3, h4⟩ := Bool.or_eq_false_iff.mp h1
        unfold gB
        rw [h3]
        have := of_decide_eq_false h2
        have := of_decide_eq_false h4
        exact decide_eq_false (by omega)
      have h4b : ∀ j, j < 946 → md_a N2 4 j = md_a M 3 j := fun j hj => by
        rw [mr_a3 f2.1 (by decide)]
        exact h4 j hj
      have h3b : ∀ j, 946 ≤ j → md_a N2 3 j = md_a M 3 j := fun j hj => (f2.2 j hj).trans (h3 j)
      generalize nI (wd_v (gWo A s n) w) = z
      suffices HH : ∀ r i N3, i + r = 946 → md_fr (fun k => gW k || decide (k = 3)) M N3 → (∀ j, j < 946 → md_a N3 4 j = md_a M 3 j) → (∀ j, (j < i ∨ 946 ≤ j) → md_a N3 3 j = md_a M 3 j) → ms_V cd_X9_world none 1 (ms_Cl (d + 11)) (gV3 h M t z) 135 [(0, .ref h.length), (5, .int z), (6, .int (nI i))] [] (ms_m h N3 t) from HH 946 0 N2 rfl f23 h4b (fun j hj => hj.elim (fun z => absurd z (Nat.not_lt_zero _)) (h3b j))
      intro r
      induction r with
      | zero =>
        intro i N3 hi hf h4 h3
        have e : i = 946 := by omega
        subst e
        exact b_X9_world_135 (ms_yes (by decide) ⟨N3, hf, fun j => h3 j (by omega), rfl, rfl⟩)
      | succ r ih =>
        intro i N3 hi hf h4 h3
        refine b_X9_world_135 (ms_no (fun z => by rw [show (946 : Int32) = nI 946 from rfl, ms_nle (by omega) (by omega)] at z; omega) ?_)
        simp only [ms_oR_e, ms_oI_e, ms_oL_e, mm_f4, mm_r4, mm_w4]
        simp only [mm_f3, ms_oR_e, mm_w3]
        refine ⟨ms_in (by omega) (by decide), ms_in (by omega) (by decide), ?_⟩
        rw [ms_nc (by omega), h4 i (by omega), show nI i + 1 = nI (i + 1) from ms_p1 1]
        refine ih (i + 1) _ (by omega) (mr_a hf rfl) (fun j hj => ?_) (fun j hj => ?_)
        · rw [md_a_fun (by decide)]
          exact h4 j hj
        · by_cases hji : j = i
          · rw [hji, md_a_at]
          · rw [md_a_ne hji]
            exact h3 j (by omega)
    | succ r ih =>
      intro i N hi hf h3 h4
      refine b_X9_world_95 (ms_no (fun z => by rw [show (946 : Int32) = nI 946 from rfl, ms_nle (by omega) (by omega)] at z; omega) ?_)
      simp only [ms_oR_e, ms_oI_e, ms_oL_e, mm_f4, mm_r4, mm_w4]
      simp only [mm_f3, ms_oR_e, mm_r3]
      refine ⟨ms_in (by omega) (by decide), ms_in (by omega) (by decide), ?_⟩
      rw [ms_nc (by omega), h3 i, show nI i + 1 = nI (i + 1) from ms_p1 1]
      refine ih (i + 1) _ (by omega) (mr_a hf rfl) (fun j => ?_) (fun j hj => ?_)
      · rw [md_a_fun (by decide)]
        exact h3 j
      · by_cases hji : j = i
        · rw [hji, md_a_at]
        · rw [md_a_ne hji]
          exact h4 j (by omega)
  -- the things
  suffices H : ∀ r i, i + r = ab_t A → ms_V cd_X9_world none 1 (ms_Cl (d + 11)) (gV3 h M t (wd_an A q m u)) 11 [(0, .ref h.length), (1, .int q), (2, .int m), (3, .int u), (4, .int (nI (trn A i))), (5, .int (nI i))] [] (ms_m h N1 t) from H (ab_t A) 0 (by omega)
  have no : gV3 h M t (-1) (some (.int (-1))) (ms_m h N1 t) := ⟨N1, fW, e1, rfl, rfl⟩
  intro r
  induction r with
  | zero =>
    intro i hi
    have e : i = ab_t A := by omega
    subst e
    have hle := trn_le (A := A) (ab_t A)
    refine b_X9_world_11 (ms_oR_i mm_f3 (n_rd (k := 0) (by decide) w1.n0 (ms_yes ((ms_nle (by omega) (by omega)).mpr (Nat.le_refl _)) ?_)))
    unfold wd_an wd_ok
    refine ms_c1_i (n_inK 1000000 (by decide) 1000000 (by decide) _) (ms_ifT (fun hq => ?_) (fun hq => ?_))
    · rw [hq, Bool.false_and, Bool.and_false]
      exact no
    rw [hq, Bool.true_and]
    refine ms_c1_i (c9_inI (v := m) 2 8 (by decide) (by decide)) ?_
    unfold md_in
    refine ms_ifT (fun hm => ?_) (fun hm => ?_)
    · rw [hm, Bool.false_and]
      exact no
    rw [hm, Bool.true_and]
    refine ms_c1_i (n_inK 3 (by decide) 3 (by decide) _) (ms_ifT (fun hu => ?_) (fun hu => ?_))
    · rw [hu, Bool.false_and]
      exact no
    rw [hu, Bool.true_and]
    refine ms_ite2 (fun z => ?_) (fun z => ?_) <;> rw [show (0 : Int32) = nI 0 from rfl, ms_nI_eq (by omega) (by omega)] at z
    · rw [(trn_0 _).mp z]
      exact no
    have ht : tru A (ab_t A) = true := by
      cases htt : tru A (ab_t A) with
      | true => rfl
      | false => exact absurd ((trn_0 _).mpr htt) z
    rw [ht, if_pos rfl]
    obtain ⟨s, hs, rfl, e1, _⟩ := ms_ix_k hq
    obtain ⟨w, hw, rfl, e2, _⟩ := ms_ix_k hu
    rw [ms_and_b, decide_eq_true_eq, decide_eq_true_eq] at hm
    obtain ⟨n, hn, rfl⟩ : ∃ n, n ≤ 8 ∧ m = nI n := by
      have h2 := Int32.le_iff_toInt_le.mp hm.1
      have h8 := Int32.le_iff_toInt_le.mp hm.2
      rw [show (2 : Int32).toInt = 2 by decide] at h2
      rw [show (8 : Int32).toInt = 8 by decide] at h8
      refine ⟨m.toInt.toNat, by omega, ?_⟩
      apply Int32.toInt_inj.mp
      rw [nI_toInt (by omega)]
      omega
    rw [e1, e2, ms_nc (by omega)]
    exact body s n w (by omega) hn (by omega)
  | succ r ih =>
    intro i hi
    have hle := trn_le (A := A) i
    have H := ih (i + 1) (by omega)
    rw [show trn A (i + 1) = trn A i + (if ab_gh A i then 0 else 1) from rfl] at H
    refine b_X9_world_11 (ms_oR_i mm_f3 (n_rd (k := 0) (by decide) w1.n0 (ms_no (fun z => by rw [ms_nle (by omega) (by omega)] at z; omega) (ms_c1_i (n_isGhost w1 (by omega)) ?_))))
    rw [show nI i + 1 = nI (i + 1) from ms_p1 1]
    refine ms_ifT (fun hg => ?_) (fun hg => ?_)
    · rw [hg, if_neg (by decide)] at H
      rw [show nI (trn A i) + 1 = nI (trn A i + 1) from ms_p1 1]
      exact H
    · rw [hg, if_pos rfl] at H
      rw [show nI (trn A i) + 0 = nI (trn A i + 0) from ms_p1 0]
      exact H
end Wr
