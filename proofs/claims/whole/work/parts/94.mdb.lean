/-! THE MODEL: lifts, choices, leasts; written by wip/whole/mdl.py from mdb.txt -/
/-- the best source among the first so many, by what lifts cost -/
def bs (l : Nat → Nat) (x : Nat) : Nat → Option Nat
  | 0 => none
  | s + 1 => if x.testBit s = true ∧ l s ≠ NW then (match bs l x s with
    | none => some s
    | some b => if l s < l b then some s else some b) else bs l x s
section Mdb
variable {d i j k n p o e f u v x y s r c day m : Nat} {h t : ms_S} {M N L : md_T} {S' S2 : Nat → Bool} {A : ab_T} {S : List Nat} {P : Nat → Bool} {q w : Int32} {l : Nat → Nat}
theorem ck_m_lb (hs : s < m) (hb : x.testBit s = true) : ck_m l x m ≤ l s := by
  induction m with
  | zero => exact absurd hs (Nat.not_lt_zero s)
  | succ m ih =>
    have ec : ck_m l x (m + 1) = if x.testBit m then min (ck_m l x m) (l m) else ck_m l x m := rfl
    rw [ec]
    by_cases hsm : s = m
    · rw [← hsm, if_pos hb]
      exact Nat.min_le_right _ _
    · have := ih (by omega)
      split
      · exact Nat.le_trans (Nat.min_le_left _ _) this
      · exact this
theorem bs_ok (hl : ∀ s, l s ≤ NW) : ∀ m, match bs l x m with
    | none => ck_m l x m = NW ∧ ∀ s, s < m → x.testBit s = true → l s = NW
    | some b => b < m ∧ x.testBit b = true ∧ l b = ck_m l x m ∧ l b < NW ∧ ∀ s, s < b → x.testBit s = true → l b < l s
  | 0 => ⟨rfl, fun s hs => absurd hs (Nat.not_lt_zero s)⟩
  | m + 1 => by
    have ih := bs_ok hl m
    have hm := hl m
    unfold bs
    have ec : ck_m l x (m + 1) = if x.testBit m then min (ck_m l x m) (l m) else ck_m l x m := rfl
    rw [ec]
    by_cases hb : x.testBit m = true
    · by_cases hN : l m = NW
      · rw [if_neg (fun z => z.2 hN), hb, if_pos rfl, hN]
        cases hbs : bs l x m with
        | none =>
          rw [hbs] at ih
          refine ⟨by rw [ih.1]; exact Nat.min_self _, fun s hs h1 => ?_⟩
          by_cases hsm : s = m
          · rw [hsm]; exact hN
          · exact ih.2 s (by omega) h1
        | some b =>
          rw [hbs] at ih
          obtain ⟨i1, i2, i3, i4, i5⟩ := ih
          exact ⟨by omega, i2, by rw [← i3]; exact (Nat.min_eq_left (by omega)).symm, i4, i5⟩
      · rw [if_pos ⟨hb, hN⟩, hb, if_pos rfl]
        cases hbs : bs l x m with
        | none =>
          rw [hbs] at ih
          simp only
          rw [ih.1]
          refine ⟨Nat.lt_succ_self m, hb, (Nat.min_eq_right hm).symm, by omega, fun s hs h1 => ?_⟩
          rw [ih.2 s hs h1]
          omega
        | some b =>
          rw [hbs] at ih
          obtain ⟨i1, i2, i3, i4, i5⟩ := ih
          simp only
          by_cases hlt : l m < l b
          · rw [if_pos hlt]
            refine ⟨Nat.lt_succ_self m, hb, by rw [← i3]; exact (Nat.min_eq_right (by omega)).symm, by omega, fun s hs h1 => ?_⟩
            by_cases hsb : s < b
            · have := i5 s hsb h1
              omega
            · have := ck_m_lb (l := l) (x := x) hs h1
              omega
          · rw [if_neg hlt]
            exact ⟨by omega, i2, by rw [← i3]; exact (Nat.min_eq_left (by omega)).symm, i4, i5⟩
    · rw [if_neg (fun z => hb z.1), if_neg hb]
      cases hbs : bs l x m with
      | none =>
        rw [hbs] at ih
        refine ⟨ih.1, fun s hs h1 => ?_⟩
        by_cases hsm : s = m
        · rw [hsm] at h1; exact absurd h1 hb
        · exact ih.2 s (by omega) h1
      | some b =>
        rw [hbs] at ih
        obtain ⟨i1, i2, i3, i4, i5⟩ := ih
        exact ⟨by omega, i2, i3, i4, i5⟩
theorem q_or_bs : q_or A p S x j = if q_lk A p j ≤ ck_m (q_lf A p S j) x S.length then none else (bs (q_lf A p S j) x S.length).map (fun s => (ab_lf A (q_e A p j) (S.getD s 0)).2) := by
  unfold q_or
  by_cases hc : q_lk A p j ≤ ck_m (q_lf A p S j) x S.length
  · rw [if_pos hc, if_pos hc]
  · rw [if_neg hc, if_neg hc]
    have hb := bs_ok (l := q_lf A p S j) (x := x) (fun s => q_lf_le) S.length
    have hk := q_lk_le (A := A) (p := p) (i := j)
    congr 1
    cases hbs : bs (q_lf A p S j) x S.length with
    | none =>
      rw [hbs] at hb
      have := hb.1
      unfold NW at this
      omega
    | some b =>
      rw [hbs] at hb
      obtain ⟨i1, i2, i3, i4, i5⟩ := hb
      refine find_range_hit i1 (fun s hs => ?_) ?_
      · by_cases h1 : x.testBit s = true
        · have := i5 s hs h1
          rw [h1, decide_eq_false (by omega)]
          rfl
        · rw [show x.testBit s = false by simpa using h1]
          rfl
      · rw [i2, decide_eq_true i3]
        rfl
theorem zT_U : ∀ c, gU c = false → zT c = false := fun c hc => decide_eq_false (fun z => of_decide_eq_false hc (by omega))
theorem gU_S : ∀ c, gS c = false → gU c = false := fun c hc => decide_eq_false (fun z => of_decide_eq_false hc (by omega))
/-- the lifts from a paper's entries among the first so many -/
def lfN (A : ab_T) (e o n : Nat) : Nat × Nat := ((List.range n).filter (fun f => decide (ab_en A f 0 = o))).foldl (lf_st A e) (NW, 0)
theorem lfN_all : lfN A e o (ab_e A) = ab_lf A e o := rfl
theorem lfN_s : lfN A e o (n + 1) = if ab_en A n 0 = o then lf_st A e (lfN A e o n) n else lfN A e o n := by
  unfold lfN
  rw [filt_s, List.foldl_append]
  by_cases hc : ab_en A n 0 = o
  · rw [decide_eq_true hc, if_pos rfl, if_pos hc]
    rfl
  · rw [decide_eq_false hc, if_neg hc]
    rfl
theorem lfN_le : (lfN A e o n).1 ≤ NW := lf_fold_le _ _ (Nat.le_refl _)
theorem n_findLift (w : MX A M) (he : e < ab_e A) (ho : o < 2 ^ 31) (hc : c < 108) : ms_H' (d + 7) 222 [.ref h.length, .int (nI c), .int (nI e), .int (nI o)] (ms_m h M t) (gN gU h M t (fun N => md_a N 36 c = mlf (ab_lf A e o) ∧ md_a N 37 c = mlo (ab_lf A e o) ∧ ∀ i, i ≠ c → md_a N 36 i = md_a M 36 i ∧ md_a N 37 i = md_a M 37 i)) := by
  have w1 := w.1.1
  have t1 := w.1.2.2.2.1 e 1
  refine mx_m (fun a b c => m_X9_findLift a b ⟨_, ms_m_0⟩ c) gN_l (b_X9_findLift_0 ?_)
  simp only [ms_oR_e, ms_oI_e, ms_oL_e, mm_f36, mm_r36, mm_w36, mm_f37, mm_r37, mm_w37]
  refine ⟨ms_in hc (by decide), ms_in hc (by decide), ?_⟩
  rw [ms_nc (by omega)]
  rw [← lfN_all]
  suffices H : ∀ r f N, f + r = ab_e A → md_fr gU M N → md_a N 36 c = mlf (lfN A e o f) → md_a N 37 c = mlo (lfN A e o f) → (∀ i, i ≠ c → md_a N 36 i = md_a M 36 i ∧ md_a N 37 i = md_a M 37 i) → ms_V cd_X9_findLift none 0 (ms_Cl (d + 6)) (gN gU h M t (fun N => md_a N 36 c = mlf (lfN A e o (ab_e A)) ∧ md_a N 37 c = mlo (lfN A e o (ab_e A)) ∧ ∀ i, i ≠ c → md_a N 36 i = md_a M 36 i ∧ md_a N 37 i = md_a M 37 i)) 17 [(0, .ref h.length), (1, .int (nI c)), (2, .int (nI e)), (3, .int (nI o)), (4, .int (nI f))] [] (ms_m h N t) by
    refine H (ab_e A) 0 _ (by omega) (mr_a (mr_a mr_0 rfl) rfl) ?_ ?_ (fun i hi => ?_)
    · rw [md_a_ua, if_neg (fun z => by omega), md_a_at]
      rfl
    · rw [md_a_at]
      rfl
    · rw [md_a_ua, if_neg (fun z => by omega), md_a_ne hi, md_a_ne hi, md_a_ua, if_neg (fun z => by omega)]
      exact ⟨rfl, rfl⟩
  intro r
  induction r with
  | zero =>
    intro f N hf hfr h36 h37 hoth
    have wN := w.fr hfr rfl
    refine b_X9_findLift_17 (ms_oR_i mm_f3 (n_ec wN ?_))
    refine ms_yes ((ms_nle (by omega) (by omega)).mpr (by omega)) ⟨N, hfr, rfl, rfl, ?_⟩
    rw [show ab_e A = f by omega]
    exact ⟨h36, h37, hoth⟩
  | succ r ih =>
    intro f N hf hfr h36 h37 hoth
    have wN := w.fr hfr rfl
    have u0 := w.1.2.2.2.1 f 0
    have u1 := w.1.2.2.2.1 f 1
    refine b_X9_findLift_17 (ms_oR_i mm_f3 (n_ec wN ?_))
    refine ms_no (fun z => by rw [ms_nle (by omega) (by omega)] at z; omega) (ms_c1_i (n_paperOf wN (by omega)) ?_)
    rw [show nI f + 1 = nI (f + 1) from ms_p1 1]
    have skip : ∀ N2, md_fr gU M N2 → md_a N2 36 c = mlf (lfN A e o f) → md_a N2 37 c = mlo (lfN A e o f) → (∀ i, i ≠ c → md_a N2 36 i = md_a M 36 i ∧ md_a N2 37 i = md_a M 37 i) → lfN A e o (f + 1) = lfN A e o f → ms_V cd_X9_findLift none 0 (ms_Cl (d + 6)) (gN gU h M t (fun N => md_a N 36 c = mlf (lfN A e o (ab_e A)) ∧ md_a N 37 c = mlo (lfN A e o (ab_e A)) ∧ ∀ i, i ≠ c → md_a N 36 i = md_a M 36 i ∧ md_a N 37 i = md_a M 37 i)) 17 [(0, .ref h.length), (1, .int (nI c)), (2, .int (nI e)), (3, .int (nI o)), (4, .int (nI (f + 1)))] [] (ms_m h N2 t) := by
      intro N2 g1 g2 g3 g4 g5
      exact ih (f + 1) N2 (by omega) g1 (by rw [g5]; exact g2) (by rw [g5]; exact g3) g4
    refine ms_ite2 (fun z => ?_) (fun z => ?_)
    · rw [ms_nI_eq (by omega) (by omega)] at z
      have hs1 := lfN_s (A := A) (e := e) (o := o) (n := f)
      rw [if_pos z] at hs1
      unfold lf_st at hs1
      refine ms_c1_i (n_thingOf wN (by omega)) (ms_c1_i (n_thingOf wN he) (ms_ite2 (fun z2 => ?_) (fun z2 => ?_)))
      · rw [ms_nI_eq (by omega) (by omega)] at z2
        rw [if_pos z2] at hs1
        refine my_q1 (n_slips wN (by omega) he) (fun N2 hf2 => ?_)
        have hle := ab_slips_le (A := A) (a := f) (e := e)
        have hll := lfN_le (A := A) (e := e) (o := o) (n := f)
        have f36 := fun i => (hf2 36 rfl).2.2.1 i
        have f37 := fun i => (hf2 37 rfl).2.2.1 i
        have hfr2 : md_fr gU M N2 := mr_t hfr (mr_s hf2 zT_U)
        have take : ab_slips A f e < (lfN A e o f).1 → ms_wI (ms_m h N2 t) (h.length + 18) (nI c) (nI (ab_slips A f e)) fun g14 => ms_oR (ms_fldR g14 h.length 9 37) fun x15 => ms_wI g14 x15 (nI c) (nI f) fun g16 => ms_V cd_X9_findLift none 0 (ms_Cl (d + 6)) (gN gU h M t (fun N => md_a N 36 c = mlf (lfN A e o (ab_e A)) ∧ md_a N 37 c = mlo (lfN A e o (ab_e A)) ∧ ∀ i, i ≠ c → md_a N 36 i = md_a M 36 i ∧ md_a N 37 i = md_a M 37 i)) 17 [(0, .ref h.length), (1, .int (nI c)), (2, .int (nI e)), (3, .int (nI o)), (4, .int (nI (f + 1)))] [] g16 := by
          intro hlt
          rw [if_pos hlt] at hs1
          simp only [ms_oR_e, ms_oI_e, ms_oL_e, mm_f36, mm_r36, mm_w36, mm_f37, mm_r37, mm_w37]
          refine ⟨ms_in hc (by decide), ms_in hc (by decide), ?_⟩
          rw [ms_nc (by omega)]
          have hne : ¬ (ab_slips A f e = NW) := by unfold NW; omega
          refine ih (f + 1) _ (by omega) (mr_a (mr_a hfr2 rfl) rfl) ?_ ?_ (fun i hi => ?_)
          · rw [md_a_ua, if_neg (fun z => by omega), md_a_at, hs1]
            unfold mlf
            rw [if_neg hne]
          · rw [md_a_at, hs1]
            unfold mlo
            rw [if_neg hne]
          · rw [md_a_ua, if_neg (fun z => by omega), md_a_ne hi, md_a_ne hi, md_a_ua, if_neg (fun z => by omega), f36, f37]
            exact hoth i hi
        simp only [mm_f36, mm_r36, ms_oR_e]
        refine ⟨ms_in hc (by decide), ?_⟩
        rw [ms_nc (by omega), f36, h36]
        by_cases hN : (lfN A e o f).1 = NW
        · have e1 : mlf (lfN A e o f) = -1 := by unfold mlf; rw [if_pos hN]
          refine ms_yes e1 (take ?_)
          unfold NW at hN
          omega
        · have e1 : mlf (lfN A e o f) = nI (lfN A e o f).1 := by unfold mlf; rw [if_neg hN]
          unfold NW at hll
          rw [e1]
          refine ms_no (fun z3 => ?_) ⟨ms_in hc (by decide), ?_⟩
          · have := ms_nI_0 (n := (lfN A e o f).1) (by omega)
            rw [z3] at this
            exact absurd this (by decide)
          refine ms_ite2 (fun z3 => ?_) (fun z3 => ?_)
          · rw [ms_nle (by omega) (by omega)] at z3
            refine skip N2 hfr2 (by rw [f36]; exact h36) (by rw [f37]; exact h37) (fun i hi => by rw [f36, f37]; exact hoth i hi) ?_
            rw [hs1, if_neg (by omega)]
          · rw [ms_nle (by omega) (by omega)] at z3
            exact take (by omega)
      · rw [ms_nI_eq (by omega) (by omega)] at z2
        rw [if_neg z2] at hs1
        exact skip N hfr h36 h37 hoth hs1
    · rw [ms_nI_eq (by omega) (by omega)] at z
      have hs1 := lfN_s (A := A) (e := e) (o := o) (n := f)
      rw [if_neg z] at hs1
      exact skip N hfr h36 h37 hoth hs1
end Mdb
