/-! THE MODEL: costs, choices, leasts; written by wip/whole/mdl.py from mdc.txt -/
def gC (k : Nat) : Bool := decide (25 ≤ k ∧ k ≤ 37)
def bsI (o : Option Nat) : Int32 := match o with
  | none => -1
  | some s => nI s
section Mdc
variable {d i j k n p o e f u v x y s r c day m : Nat} {h t : ms_S} {M N L : md_T} {S' S2 : Nat → Bool} {A : ab_T} {S : List Nat} {P : Nat → Bool} {q w : Int32} {l : Nat → Nat}
theorem zT_gS : ∀ c, gS c = false → zT c = false := zT_S
def plN (A : ab_T) (p n : Nat) : List Nat := (List.range n).filter (fun e => decide (ab_en A e 0 = p))
theorem q_e_pl (he : e < ab_e A) (h : ab_en A e 0 = p) : q_e A p (plN A p e).length = e := by
  have k := filt_at (P := fun e => decide (ab_en A e 0 = p)) (o := e) (decide_eq_true h) (ab_e A - (e + 1))
  rw [show e + 1 + (ab_e A - (e + 1)) = ab_e A by omega] at k
  unfold q_e ab_l plN
  rw [List.getD_eq_getElem?_getD, k]
  rfl
theorem plN_le (he : e ≤ ab_e A) : (plN A p e).length ≤ (ab_l A p).length := by
  have : ∀ r, (plN A p e).length ≤ (plN A p (e + r)).length := by
    intro r
    induction r with
    | zero => exact Nat.le_refl _
    | succ r ih =>
      unfold plN at ih ⊢
      rw [← Nat.add_assoc, filt_s, List.length_append]
      omega
  have k := this (ab_e A - e)
  rw [show e + (ab_e A - e) = ab_e A by omega] at k
  exact k
theorem MSo_fr (h : MSo A p S M) (f : md_fr S' M N) (h30 : S' 30 = false) (h31 : S' 31 = false) (h32 : S' 32 = false) : MSo A p S N := by
  refine ⟨by rw [(f 30 h30).1]; exact h.1, h.2.1, fun s hs => ?_⟩
  rw [(f 31 h31).2.2.1, (f 32 h32).2.2.1]
  exact h.2.2 s hs
theorem src_lt (hs : s < (ab_src A p day).length) : (ab_src A p day).getD s 0 < ab_p A := by
  rw [List.getD_eq_getElem?_getD, List.getElem?_eq_getElem hs]
  exact (ab_src_mem (List.getElem_mem hs)).2.2
theorem n_findCosts (w : MX A M) (hp : p < ab_p A) (hd : day < 100) : ms_H' (d + 8) 221 [.ref h.length, .int (nI p), .int (nI day)] (ms_m h M t) (gN gS h M t (MC A p (ab_src A p day))) := by
  have w1 := w.1.1
  have hn := w.1.2.2.2.2.2 p
  refine mx_m (fun a b c => m_X9_findCosts a b ⟨_, ms_m_0⟩ c) gN_l (b_X9_findCosts_0 ?_)
  refine my_n0 (n_findSources (d := d + 2) w hp hd) (fun N0 f0 hS0 => ?_)
  have hsl : ∀ s, s < (ab_src A p day).length → (ab_src A p day).getD s 0 < ab_p A := fun s hs => src_lt hs
  generalize ab_src A p day = S at *
  simp only [ms_oR_e, ms_oI_e, ms_oL_e, mm_f33, mm_p33]
  have hS9 := hS0.2.1
  suffices H : ∀ r e N, e + r = ab_e A → md_fr gS M N → MCo A p S N (plN A p e).length → md_i N 33 = nI (plN A p e).length → ms_V cd_X9_findCosts none 0 (ms_Cl (d + 7)) (gN gS h M t (MC A p S)) 13 [(0, .ref h.length), (1, .int (nI p)), (3, .int (nI e))] [] (ms_m h N t) by
    refine H (ab_e A) 0 _ (by omega) (mr_i f0 rfl) ⟨⟨?_, hS9, fun s hs => hS0.2.2 s hs⟩, fun i hi => absurd hi (Nat.not_lt_zero i)⟩ md_i_at
    rw [md_i_ne (by decide)]
    exact hS0.1
  intro r
  induction r with
  | zero =>
    intro e N he hf hm h33
    have wN := w.fr hf rfl
    refine b_X9_findCosts_13 (ms_oR_i mm_f3 (n_ec wN ?_))
    refine ms_yes ((ms_nle (by omega) (by omega)).mpr (by omega)) ⟨N, hf, rfl, rfl, ?_⟩
    have e1 : (plN A p e).length = (ab_l A p).length := by rw [show e = ab_e A by omega]; rfl
    rw [e1] at hm h33
    exact ⟨hm, h33⟩
  | succ r ih =>
    intro e N he hf hm h33
    have wN := w.fr hf rfl
    have t0 := w.1.2.2.2.1 e 0
    refine b_X9_findCosts_13 (ms_oR_i mm_f3 (n_ec wN ?_))
    refine ms_no (fun z => by rw [ms_nle (by omega) (by omega)] at z; omega) (ms_c1_i (n_paperOf wN (by omega)) ?_)
    have hpl : plN A p (e + 1) = plN A p e ++ (if decide (ab_en A e 0 = p) then [e] else []) := filt_s
    rw [show nI e + 1 = nI (e + 1) from ms_p1 1]
    refine ms_ite2 (fun z => ?_) (fun z => ?_)
    · rw [ms_nI_eq (by omega) (by omega)] at z
      rw [decide_eq_true z, if_pos rfl] at hpl
      have hk1 : (plN A p (e + 1)).length = (plN A p e).length + 1 := by rw [hpl, List.length_append, List.length_singleton]
      have hkn : (plN A p e).length + 1 ≤ (ab_l A p).length := by rw [← hk1]; exact plN_le (by omega)
      have hqe := q_e_pl (by omega : e < ab_e A) z
      generalize (plN A p e).length = k at *
      simp only [ms_oR_e, ms_oI_e, ms_oL_e, mm_f33, mm_p33, mm_f34, mm_r34, mm_w34]
      rw [h33]
      refine ⟨ms_in (by omega) (by decide), ?_⟩
      rw [ms_nc (by omega)]
      simp only [ms_oR_e, ms_oI_e, ms_oL_e, mm_f33, mm_p33, mm_f35, mm_r35, mm_w35]
      rw [md_i_ua, h33]
      have wQ : MX A (md_ua N 34 k (nI e)) := w.fr (mr_a hf rfl) rfl
      refine my_q1 (n_lookCost wQ (by omega)) (fun N2 hf2 => ?_)
      simp only [ms_oR_e, ms_oI_e, ms_oL_e, mm_f35, mm_r35, mm_w35]
      refine ⟨ms_in (by omega) (by decide), ?_⟩
      rw [ms_nc (by omega)]
      have hfA : md_fr gS M (md_ua N2 35 k (nI (ab_look A e))) := mr_a (mr_t (mr_a hf rfl) (mr_s hf2 zT_gS)) rfl
      suffices H2 : ∀ r2 s L, s + r2 = S.length → md_fr gS M L → MCo A p S L k → md_i L 33 = nI k → md_a L 34 k = nI (q_e A p k) → md_a L 35 k = nI (q_lk A p k) → (∀ s', s' < s → md_a L 36 (9 * k + s') = mlf (ab_lf A (q_e A p k) (S.getD s' 0)) ∧ md_a L 37 (9 * k + s') = mlo (ab_lf A (q_e A p k) (S.getD s' 0))) → ms_V cd_X9_findCosts none 0 (ms_Cl (d + 7)) (gN gS h M t (MC A p S)) 59 [(0, .ref h.length), (1, .int (nI p)), (3, .int (nI e)), (4, .int (nI s))] [] (ms_m h L t) by
        have a34 : ∀ i, md_a (md_ua N2 35 k (nI (ab_look A e))) 34 i = if i = k then nI e else md_a N 34 i := by
          intro i
          rw [md_a_ua, if_neg (fun z => by omega), (hf2 34 rfl).2.2.1, md_a_ua]
          by_cases hi : i = k
          · rw [if_pos ⟨rfl, hi⟩, if_pos hi]
          · rw [if_neg (fun z => hi z.2), if_neg hi]
        have a35 : ∀ i, md_a (md_ua N2 35 k (nI (ab_look A e))) 35 i = if i = k then nI (ab_look A e) else md_a N 35 i := by
          intro i
          rw [md_a_ua]
          by_cases hi : i = k
          · rw [if_pos ⟨rfl, hi⟩, if_pos hi]
          · rw [if_neg (fun z => hi z.2), if_neg hi, (hf2 35 rfl).2.2.1, md_a_ua, if_neg (fun z => by omega)]
        have ao : ∀ c i, c ≠ 34 → c ≠ 35 → zT c = false → md_a (md_ua N2 35 k (nI (ab_look A e))) c i = md_a N c i := by
          intro c i h1 h2 h3
          rw [md_a_ua, if_neg (fun z => h2 z.1), (hf2 c h3).2.2.1, md_a_ua, if_neg (fun z => h1 z.1)]
        have ai : ∀ c, zT c = false → md_i (md_ua N2 35 k (nI (ab_look A e))) c = md_i N c := by
          intro c h3
          rw [md_i_ua, (hf2 c h3).1, md_i_ua]
        refine H2 S.length 0 _ (by omega) hfA ⟨⟨by rw [ai 30 rfl]; exact hm.1.1, hS9, fun s hs => by rw [ao 31 _ (by decide) (by decide) rfl, ao 32 _ (by decide) (by decide) rfl]; exact hm.1.2.2 s hs⟩, fun i hi => ?_⟩ (by rw [ai 33 rfl]; exact h33) (by rw [a34, if_pos rfl, hqe]) (by rw [a35, if_pos rfl]; unfold q_lk; rw [hqe]) (fun s hs => absurd hs (Nat.not_lt_zero s))
        obtain ⟨g1, g2, g3⟩ := hm.2 i hi
        refine ⟨by rw [a34, if_neg (by omega)]; exact g1, by rw [a35, if_neg (by omega)]; exact g2, fun s hs => ?_⟩
        rw [ao 36 _ (by decide) (by decide) rfl, ao 37 _ (by decide) (by decide) rfl]
        exact g3 s hs
      intro r2
      induction r2 with
      | zero =>
        intro s L hs hfL hmL h33L h34 h35 hlf
        refine b_X9_findCosts_59 (ms_oI_i mm_f30 ?_)
        rw [hmL.1.1]
        refine ms_yes ((ms_nle (by omega) (by omega)).mpr (by omega)) ?_
        simp only [ms_oR_e, ms_oI_e, ms_oL_e, mm_f33, mm_p33]
        rw [h33L, show nI k + 1 = nI (k + 1) from ms_p1 1, show nI e + 1 = nI (e + 1) from ms_p1 1]
        refine ih (e + 1) _ (by omega) (mr_i hfL rfl) ?_ (by rw [hk1]; exact md_i_at)
        rw [hk1]
        refine ⟨⟨by rw [md_i_ne (by decide)]; exact hmL.1.1, hS9, fun s hs => hmL.1.2.2 s hs⟩, fun i hi => ?_⟩
        by_cases hik : i = k
        · rw [hik]
          exact ⟨h34, h35, fun s2 hs2 => hlf s2 (by omega)⟩
        · exact hmL.2 i (by omega)
      | succ r2 ih2 =>
        intro s L hs hfL hmL h33L h34 h35 hlf
        have wL := w.fr hfL rfl
        refine b_X9_findCosts_59 (ms_oI_i mm_f30 ?_)
        rw [hmL.1.1]
        refine ms_no (fun z => by rw [ms_nle (by omega) (by omega)] at z; omega) (ms_oI_i mm_f33 ?_)
        rw [h33L]
        refine ms_oR_i mm_f31 ?_
        rw [mm_r31]
        refine ⟨ms_in (by omega) (by decide), ?_⟩
        have hsp := hsl s (by omega)
        rw [ms_nc (by omega), (hmL.1.2.2 s (by omega)).1, show ((9 : Int32) * nI k) + nI s = nI (9 * k + s) by rw [show (9 : Int32) = nI 9 from rfl, nI_mul, ms_p1], show nI s + 1 = nI (s + 1) from ms_p1 1]
        refine my_n0 (n_findLift (d := d) wL (by omega) (by omega) (by omega)) (fun N3 hf3 ⟨b1, b2, b3⟩ => ?_)
        have e34 : ∀ i, md_a N3 34 i = md_a L 34 i := (hf3 34 rfl).2.2.1
        have e35 : ∀ i, md_a N3 35 i = md_a L 35 i := (hf3 35 rfl).2.2.1
        refine ih2 (s + 1) N3 (by omega) (mr_t hfL (mr_s hf3 gU_S)) ⟨MSo_fr hmL.1 hf3 rfl rfl rfl, fun i hi => ?_⟩ (by rw [(hf3 33 rfl).1]; exact h33L) (by rw [e34]; exact h34) (by rw [e35]; exact h35) (fun s' hs' => ?_)
        · obtain ⟨g1, g2, g3⟩ := hmL.2 i hi
          refine ⟨by rw [e34]; exact g1, by rw [e35]; exact g2, fun s2 hs2 => ?_⟩
          rw [(b3 _ (by omega)).1, (b3 _ (by omega)).2]
          exact g3 s2 hs2
        · by_cases hss : s' = s
          · rw [hss, hqe]
            exact ⟨b1, b2⟩
          · rw [(b3 _ (by omega)).1, (b3 _ (by omega)).2]
            exact hlf s' (by omega)
    · rw [ms_nI_eq (by omega) (by omega)] at z
      rw [decide_eq_false z] at hpl
      have e1 : plN A p (e + 1) = plN A p e := by rw [hpl]; simp
      exact ih (e + 1) N (by omega) hf (by rw [e1]; exact hm) (by rw [e1]; exact h33)
theorem nI_p9 : ((9 : Int32) * nI k) + nI s = nI (9 * k + s) := by rw [show (9 : Int32) = nI 9 from rfl, nI_mul, ms_p1]
theorem mlf_lf (hC : MC A p S M) (hi : i < (ab_l A p).length) (hs : s < S.length) : md_a M 36 (9 * i + s) = if q_lf A p S i s = NW then -1 else nI (q_lf A p S i s) := ((hC.1.2 i hi).2.2 s hs).1
theorem mlf_ne (hC : MC A p S M) (hi : i < (ab_l A p).length) (hs : s < S.length) (hne : q_lf A p S i s ≠ NW) : md_a M 36 (9 * i + s) = nI (q_lf A p S i s) := by rw [mlf_lf hC hi hs, if_neg hne]
theorem n_bestSource (hC : MC A p S M) (hn : (ab_l A p).length ≤ 12) (hi : i < (ab_l A p).length) (hx : x < 2 ^ 31) : ms_Cl (d + 1) 223 [.ref h.length, .int (nI i), .int (nI x)] (ms_m h M t) (some (.int (bsI (bs (q_lf A p S i) x S.length)))) (ms_m h M t) := by
  have h9 := hC.1.1.2.1
  refine m_X9_bestSource (Nat.le_refl _) (Nat.le_refl _) ⟨_, ms_m_0⟩ (b_X9_bestSource_0 (Q := ms_lf _ _) ?_)
  suffices H : ∀ r s, s + r = S.length → ms_V cd_X9_bestSource none 1 (ms_Cl d) (ms_lf (some (.int (bsI (bs (q_lf A p S i) x S.length)))) (ms_m h M t)) 5 [(0, .ref h.length), (1, .int (nI i)), (2, .int (nI x)), (3, .int (bsI (bs (q_lf A p S i) x s))), (4, .int (nI s))] [] (ms_m h M t) from H S.length 0 (by omega)
  intro r
  induction r with
  | zero =>
    intro s hs
    refine b_X9_bestSource_5 (ms_oI_i mm_f30 ?_)
    rw [hC.1.1.1]
    refine ms_yes ((ms_nle (by omega) (by omega)).mpr (by omega)) ⟨?_, rfl⟩
    rw [show S.length = s by omega]
  | succ r ih =>
    intro s hs
    have hql : q_lf A p S i s ≤ NW := q_lf_le
    unfold NW at hql
    have H := ih (s + 1) (by omega)
    refine b_X9_bestSource_5 (ms_oI_i mm_f30 ?_)
    rw [hC.1.1.1]
    refine ms_no (fun z => by rw [ms_nle (by omega) (by omega)] at z; omega) (ms_oR_i mm_f36 ?_)
    rw [nI_p9, mm_r36]
    refine ⟨ms_in (by omega) (by decide), ?_⟩
    rw [ms_nc (by omega), mlf_lf hC hi (by omega), show nI s + 1 = nI (s + 1) from ms_p1 1]
    have keep : bs (q_lf A p S i) x (s + 1) = bs (q_lf A p S i) x s → ms_V cd_X9_bestSource none 1 (ms_Cl d) (ms_lf (some (.int (bsI (bs (q_lf A p S i) x S.length)))) (ms_m h M t)) 5 [(0, .ref h.length), (1, .int (nI i)), (2, .int (nI x)), (3, .int (bsI (bs (q_lf A p S i) x s))), (4, .int (nI (s + 1)))] [] (ms_m h M t) := by
      intro he
      rw [he] at H
      exact H
    have took : bs (q_lf A p S i) x (s + 1) = some s → ms_V cd_X9_bestSource none 1 (ms_Cl d) (ms_lf (some (.int (bsI (bs (q_lf A p S i) x S.length)))) (ms_m h M t)) 5 [(0, .ref h.length), (1, .int (nI i)), (2, .int (nI x)), (3, .int (nI s)), (4, .int (nI (s + 1)))] [] (ms_m h M t) := by
      intro he
      rw [he] at H
      exact H
    refine ms_ite2 (fun z => ?_) (fun z => ?_)
    · rw [bit_1 (by omega) (by omega)] at z
      by_cases hN : q_lf A p S i s = NW
      · rw [if_pos hN]
        refine ms_yes rfl (keep ?_)
        rw [bs, if_neg (fun z2 => z2.2 hN)]
      · rw [if_neg hN]
        refine ms_no (fun z3 => ?_) ?_
        · have := ms_nI_0 (n := q_lf A p S i s) (by omega)
          rw [z3] at this
          exact absurd this (by decide)
        have hbo := bs_ok (l := q_lf A p S i) (x := x) (fun s => q_lf_le) s
        cases hbs : bs (q_lf A p S i) x s with
        | none =>
          have hb1 : bs (q_lf A p S i) x (s + 1) = some s := by rw [bs, if_pos ⟨z, hN⟩, hbs]
          exact ms_yes rfl (took hb1)
        | some b =>
          have hb1 : bs (q_lf A p S i) x (s + 1) = if q_lf A p S i s < q_lf A p S i b then some s else some b := by rw [bs, if_pos ⟨z, hN⟩, hbs]
          rw [hbs] at hbo keep
          obtain ⟨i1, i2, i3, i4, i5⟩ := hbo
          refine ms_no (nI_m1 (x := b) (by omega)) ?_
          show ms_oR _ _
          refine ms_oR_i mm_f36 ?_
          rw [show ((9 : Int32) * nI i) + bsI (some b) = nI (9 * i + b) from nI_p9, mm_r36]
          refine ⟨ms_in (by omega) (by decide), ?_⟩
          unfold NW at i4
          rw [ms_nc (by omega), mlf_ne hC hi (by omega) (by unfold NW; omega)]
          refine ms_ite2 (fun z3 => ?_) (fun z3 => ?_)
          · rw [ms_nle (by omega) (by omega)] at z3
            refine keep ?_
            rw [hb1]
            exact if_neg (by omega)
          · rw [ms_nle (by omega) (by omega)] at z3
            refine took ?_
            rw [hb1]
            exact if_pos (by omega)
    · rw [bit_1 (by omega) (by omega)] at z
      refine keep ?_
      rw [bs, if_neg (fun z2 => z z2.1)]
theorem n_costOf (hC : MC A p S M) (hn : (ab_l A p).length ≤ 12) (hi : i < (ab_l A p).length) (hx : x < 2 ^ 31) : ms_Cl (d + 2) 224 [.ref h.length, .int (nI i), .int (nI x)] (ms_m h M t) (some (.int (nI (min (q_lk A p i) (ck_m (q_lf A p S i) x S.length))))) (ms_m h M t) := by
  have h9 := hC.1.1.2.1
  have hlk := q_lk_le (A := A) (p := p) (i := i)
  have hbo := bs_ok (l := q_lf A p S i) (x := x) (fun s => q_lf_le) S.length
  refine m_X9_costOf (Nat.le_refl _) (Nat.le_refl _) ⟨_, ms_m_0⟩ (b_X9_costOf_0 (Q := ms_lf _ _) (ms_c1_i (n_bestSource hC hn hi hx) ?_))
  cases hbs : bs (q_lf A p S i) x S.length with
  | none =>
    rw [hbs] at hbo
    have e1 := hbo.1
    refine ms_yes rfl ?_
    simp only [ms_oR_e, ms_oI_e, ms_oL_e, mm_f35, mm_r35, mm_w35]
    refine ⟨ms_in (by omega) (by decide), ?_, rfl⟩
    rw [ms_nc (by omega), (hC.1.2 i hi).2.1, e1, Nat.min_eq_left (by unfold NW; omega)]
  | some b =>
    rw [hbs] at hbo
    obtain ⟨i1, i2, i3, i4, i5⟩ := hbo
    unfold NW at i4
    refine ms_no (nI_m1 (x := b) (by omega)) ?_
    simp only [ms_oR_e, ms_oI_e, ms_oL_e, mm_f35, mm_r35, mm_w35, mm_f36, mm_r36, mm_w36]
    rw [show ((9 : Int32) * nI i) + bsI (some b) = nI (9 * i + b) from nI_p9]
    refine ⟨ms_in (by omega) (by decide), ms_in (by omega) (by decide), ?_⟩
    rw [ms_nc (by omega), ms_nc (by omega), (hC.1.2 i hi).2.1, mlf_ne hC hi i1 (by unfold NW; omega), ← i3]
    refine ms_ite2 (fun z => ?_) (fun z => ?_)
    · rw [ms_nlt (by omega) (by omega)] at z
      refine ⟨ms_in (by omega) (by decide), ?_, rfl⟩
      rw [Nat.min_eq_right (by omega)]
    · rw [ms_nlt (by omega) (by omega)] at z
      refine ⟨ms_in (by omega) (by decide), ?_, rfl⟩
      rw [Nat.min_eq_left (by omega)]
theorem n_opensOf (hC : MC A p S M) (hx : x < 2 ^ 31) : ms_Cl (d + 1) 225 [.ref h.length, .int (nI x)] (ms_m h M t) (some (.int (nI (ck_o (q_op A p S) x S.length)))) (ms_m h M t) := by
  have h9 := hC.1.1.2.1
  refine m_X9_opensOf (Nat.le_refl _) (Nat.le_refl _) ⟨_, ms_m_0⟩ (b_X9_opensOf_0 (Q := ms_lf _ _) ?_)
  suffices H : ∀ r s, s + r = S.length → ms_V cd_X9_opensOf none 1 (ms_Cl d) (ms_lf (some (.int (nI (ck_o (q_op A p S) x S.length)))) (ms_m h M t)) 4 [(0, .ref h.length), (1, .int (nI x)), (2, .int (nI (ck_o (q_op A p S) x s))), (3, .int (nI s))] [] (ms_m h M t) from H S.length 0 (by omega)
  intro r
  induction r with
  | zero =>
    intro s hs
    refine b_X9_opensOf_4 (ms_oI_i mm_f30 ?_)
    rw [hC.1.1.1]
    refine ms_yes ((ms_nle (by omega) (by omega)).mpr (by omega)) ⟨?_, rfl⟩
    rw [show S.length = s by omega]
  | succ r ih =>
    intro s hs
    have H := ih (s + 1) (by omega)
    refine b_X9_opensOf_4 (ms_oI_i mm_f30 ?_)
    rw [hC.1.1.1]
    refine ms_no (fun z => by rw [ms_nle (by omega) (by omega)] at z; omega) (ms_oR_i mm_f32 ?_)
    rw [mm_r32]
    refine ⟨ms_in (by omega) (by decide), ?_⟩
    rw [ms_nc (by omega), (hC.1.1.2.2 s (by omega)).2, bit_nI hx (by omega), nI_mul, ms_p1, show nI s + 1 = nI (s + 1) from ms_p1 1]
    rw [show ck_o (q_op A p S) x (s + 1) = ck_o (q_op A p S) x s + (if x.testBit s then q_op A p S s else 0) from rfl] at H
    by_cases hb : x.testBit s = true
    · rw [hb, if_pos rfl] at H ⊢
      rw [Nat.one_mul]
      exact H
    · rw [if_neg hb] at H ⊢
      rw [Nat.zero_mul]
      exact H
theorem n_sumBy (hC : MC A p S M) (hn : (ab_l A p).length ≤ 12) (hx : x < 2 ^ 31) : ms_Cl (d + 3) 226 [.ref h.length, .int (nI x)] (ms_m h M t) (some (.int (nI (q_s A p S x)))) (ms_m h M t) := by
  have h9 := hC.1.1.2.1
  refine m_X9_sumBy (Nat.le_refl _) (Nat.le_refl _) ⟨_, ms_m_0⟩ (b_X9_sumBy_0 (Q := ms_lf _ _) (ms_c1_i (n_opensOf hC hx) ?_))
  suffices H : ∀ r i, i + r = (ab_l A p).length → ms_V cd_X9_sumBy none 1 (ms_Cl (d + 2)) (ms_lf (some (.int (nI (q_s A p S x)))) (ms_m h M t)) 8 [(0, .ref h.length), (1, .int (nI x)), (2, .int (nI (ck_o (q_op A p S) x S.length + sm (fun i => min (q_lk A p i) (ck_m (q_lf A p S i) x S.length)) i))), (3, .int (nI i))] [] (ms_m h M t) from H (ab_l A p).length 0 (by omega)
  intro r
  induction r with
  | zero =>
    intro i hi
    refine b_X9_sumBy_8 (ms_oI_i mm_f33 ?_)
    rw [hC.2]
    refine ms_yes ((ms_nle (by omega) (by omega)).mpr (by omega)) ⟨?_, rfl⟩
    rw [show i = (ab_l A p).length by omega]
    rfl
  | succ r ih =>
    intro i hi
    have H := ih (i + 1) (by omega)
    refine b_X9_sumBy_8 (ms_oI_i mm_f33 ?_)
    rw [hC.2]
    refine ms_no (fun z => by rw [ms_nle (by omega) (by omega)] at z; omega) (ms_c1_i (n_costOf hC hn (by omega) hx) ?_)
    rw [show nI i + 1 = nI (i + 1) from ms_p1 1, ms_p1]
    rw [show sm (fun i => min (q_lk A p i) (ck_m (q_lf A p S i) x S.length)) (i + 1) = sm (fun i => min (q_lk A p i) (ck_m (q_lf A p S i) x S.length)) i + min (q_lk A p i) (ck_m (q_lf A p S i) x S.length) from rfl, ← Nat.add_assoc] at H
    exact H
theorem n_ones {g : ms_S} (hx : x < 2 ^ 31) : ms_Cl (d + 1) 227 [.int (nI x)] g (some (.int (nI (ones x 9)))) g := by
  refine m_X9_ones (Nat.le_refl _) (Nat.le_refl _) (b_X9_ones_0 (Q := ms_lf _ _) ?_)
  suffices H : ∀ r s, s + r = 9 → ms_V cd_X9_ones none 1 (ms_Cl d) (ms_lf (some (.int (nI (ones x 9)))) g) 4 [(0, .int (nI x)), (1, .int (nI (ones x s))), (2, .int (nI s))] [] g from H 9 0 rfl
  intro r
  induction r with
  | zero =>
    intro s hs
    rw [show s = 9 by omega]
    exact b_X9_ones_4 (ms_yes (by decide) ⟨rfl, rfl⟩)
  | succ r ih =>
    intro s hs
    have H := ih (s + 1) (by omega)
    refine b_X9_ones_4 (ms_no ?_ ?_)
    · rw [show (9 : Int32) = nI 9 from rfl, ms_nle (by decide) (by omega)]
      omega
    rw [bit_nI hx (by omega), ms_p1, show nI s + 1 = nI (s + 1) from ms_p1 1]
    exact H
/-- a paper's leasts stand in the model -/
def ML (A : ab_T) (p : Nat) (S : List Nat) (N : md_T) : Prop := MC A p S N ∧ md_i N 38 = nI (lb A p S).1 ∧ md_i N 39 = nI (lb A p S).2
theorem MC_ui (hC : MC A p S M) {k : Nat} {v : Int32} (hk : 33 < k) : MC A p S (md_ui M k v) := by
  refine ⟨⟨⟨by rw [md_i_ne (by omega)]; exact hC.1.1.1, hC.1.1.2.1, fun s hs => hC.1.1.2.2 s hs⟩, fun i hi => hC.1.2 i hi⟩, by rw [md_i_ne (by omega)]; exact hC.2⟩
theorem n_findLeast (w : MX A M) (hp : p < ab_p A) (hd : day < 100) : ms_H' (d + 9) 228 [.ref h.length, .int (nI p), .int (nI day)] (ms_m h M t) (gN gS h M t (ML A p (ab_src A p day))) := by
  have hn := w.1.2.2.2.2.2 p
  refine mx_m (fun a b c => m_X9_findLeast a b ⟨_, ms_m_0⟩ c) gN_l (b_X9_findLeast_0 ?_)
  refine my_n0 (n_findCosts w hp hd) (fun N0 f0 hC0 => ?_)
  generalize ab_src A p day = S at *
  have h9 := hC0.1.1.2.1
  have hp9 : 2 ^ S.length ≤ 512 := Nat.pow_le_pow_right (by decide) h9
  have hp0 : 0 < 2 ^ S.length := Nat.two_pow_pos _
  have hle : ∀ x, q_s A p S x ≤ 69000 := fun x => q_s_le h9 hn
  simp only [ms_oR_e, ms_oI_e, ms_oL_e, mm_f39, mm_p39]
  refine ms_c1_i (n_sumBy (x := 0) (MC_ui hC0 (by decide)) hn (by decide)) ?_
  simp only [ms_oR_e, ms_oI_e, ms_oL_e, mm_f38, mm_p38]
  have h0 : ck_b (q_s A p S) 1 = (q_s A p S 0, 0) := by
    rw [ck_b]
    exact if_pos (Or.inl (by have := hle 0; show q_s A p S 0 < NW; unfold NW; omega))
  suffices H : ∀ r x N, x + r = 2 ^ S.length → 0 < x → md_fr gS M N → MC A p S N → md_i N 38 = nI (ck_b (q_s A p S) x).1 → md_i N 39 = nI (ck_b (q_s A p S) x).2 → ms_V cd_X9_findLeast none 0 (ms_Cl (d + 8)) (gN gS h M t (ML A p S)) 22 [(0, .ref h.length), (3, .int (nI x))] [] (ms_m h N t) by
    refine H (2 ^ S.length - 1) 1 _ (by omega) (by decide) (mr_i (mr_i f0 rfl) rfl) (MC_ui (MC_ui hC0 (by decide)) (by decide)) ?_ ?_
    · rw [md_i_at, h0]
    · rw [md_i_ne (by decide), md_i_at, h0]
      rfl
  intro r
  induction r with
  | zero =>
    intro x N hx hx0 hf hC h38 h39
    refine b_X9_findLeast_22 (ms_oI_i mm_f30 ?_)
    rw [hC.1.1.1, pw_nI (by omega)]
    refine ms_yes ((ms_nle (by omega) (by omega)).mpr (by omega)) ⟨N, hf, rfl, rfl, hC, ?_⟩
    show md_i N 38 = nI (ck_b (q_s A p S) (2 ^ S.length)).1 ∧ md_i N 39 = nI (ck_b (q_s A p S) (2 ^ S.length)).2
    rw [show 2 ^ S.length = x by omega]
    exact ⟨h38, h39⟩
  | succ r ih =>
    intro x N hx hx0 hf hC h38 h39
    refine b_X9_findLeast_22 (ms_oI_i mm_f30 ?_)
    rw [hC.1.1.1, pw_nI (by omega)]
    refine ms_no (fun z => by rw [ms_nle (by omega) (by omega)] at z; omega) (ms_c1_i (n_sumBy hC hn (by omega)) ?_)
    have hs := hle x
    obtain ⟨b1, b2⟩ := ck_b_le (f := q_s A p S) (fun x => Nat.le_trans (hle x) (by decide)) x
    unfold NW at b1
    have ho1 : ones x 9 < 2 ^ 31 := Nat.lt_of_le_of_lt (ones_le x 9) (by decide)
    have ho2 : ones (ck_b (q_s A p S) x).2 9 < 2 ^ 31 := Nat.lt_of_le_of_lt (ones_le _ 9) (by decide)
    rw [show nI x + 1 = nI (x + 1) from ms_p1 1]
    have keep : ¬ (q_s A p S x < (ck_b (q_s A p S) x).1 ∨ q_s A p S x = (ck_b (q_s A p S) x).1 ∧ ones x 9 < ones (ck_b (q_s A p S) x).2 9) → ms_V cd_X9_findLeast none 0 (ms_Cl (d + 8)) (gN gS h M t (ML A p S)) 22 [(0, .ref h.length), (3, .int (nI (x + 1)))] [] (ms_m h N t) := by
      intro hno
      refine ih (x + 1) N (by omega) (by omega) hf hC ?_ ?_
      · rw [ck_b, if_neg hno]; exact h38
      · rw [ck_b, if_neg hno]; exact h39
    have take : (q_s A p S x < (ck_b (q_s A p S) x).1 ∨ q_s A p S x = (ck_b (q_s A p S) x).1 ∧ ones x 9 < ones (ck_b (q_s A p S) x).2 9) → ms_V cd_X9_findLeast none 0 (ms_Cl (d + 8)) (gN gS h M t (ML A p S)) 22 [(0, .ref h.length), (3, .int (nI (x + 1)))] [] (ms_m h (md_ui (md_ui N 38 (nI (q_s A p S x))) 39 (nI x)) t) := by
      intro hyes
      refine ih (x + 1) _ (by omega) (by omega) (mr_i (mr_i hf rfl) rfl) (MC_ui (MC_ui hC (by decide)) (by decide)) ?_ ?_
      · rw [ck_b, if_pos hyes, md_i_ne (by decide), md_i_at]
      · rw [ck_b, if_pos hyes, md_i_at]
    refine ms_oI_i mm_f38 ?_
    rw [h38]
    refine ms_ite2 (fun z => ?_) (fun z => ?_)
    · rw [ms_nlt (by omega) (by omega)] at z
      simp only [ms_oR_e, ms_oI_e, ms_oL_e, mm_f38, mm_p38, mm_f39, mm_p39]
      exact take (Or.inl z)
    · rw [ms_nlt (by omega) (by omega)] at z
      refine ms_oI_i mm_f38 ?_
      rw [h38]
      refine ms_ite2 (fun z2 => ?_) (fun z2 => ?_)
      · rw [ms_nI_eq (by omega) (by omega)] at z2
        refine ms_c1_i (n_ones (by omega)) (ms_oI_i mm_f39 ?_)
        rw [h39]
        refine ms_c1_i (n_ones (by omega)) (ms_ite2 (fun z3 => ?_) (fun z3 => ?_))
        · rw [ms_nle ho2 ho1] at z3
          exact keep (by omega)
        · rw [ms_nle ho2 ho1] at z3
          simp only [ms_oR_e, ms_oI_e, ms_oL_e, mm_f38, mm_p38, mm_f39, mm_p39]
          exact take (Or.inr ⟨z2, by omega⟩)
      · rw [ms_nI_eq (by omega) (by omega)] at z2
        exact keep (by omega)
end Mdc
