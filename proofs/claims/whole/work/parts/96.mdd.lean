/-! THE MODEL: the tree, and the calls over it; written by wip/whole/mdl.py from mdd.txt -/
/-- a call's answer, nothing but scratch is another -/
def gX (h : ms_S) (M : md_T) (t : ms_S) (a : Int32) : Option Value → ms_S → Prop := gQ gA h M t a
def gXL (h : ms_S) (M : md_T) (t : ms_S) (a : Int64) (r : Option Value) (g' : ms_S) : Prop := ∃ N, md_fr gA M N ∧ g' = ms_m h N t ∧ r = some (.long a)
def MT2 (A : ab_T) (day : Nat) (N : md_T) : Prop := (∀ e, e < ab_e A → md_a N 40 e = if ab_es A e day then or_I (ab_or A e day) else -2) ∧ md_i N 41 = nI (ab_ts A day)
section Mdd
variable {d i j k n p o e f u v x y s r c day m : Nat} {h t : ms_S} {M N L : md_T} {S' S2 : Nat → Bool} {A : ab_T} {S : List Nat} {P : Nat → Bool} {q w : Int32} {l : Nat → Nat}
theorem gS_gA : ∀ c, gA c = false → gS c = false := gS_A
theorem zT_gA : ∀ c, gA c = false → zT c = false := fun c hc => zT_S c (gS_A c hc)
theorem gXL_l {a : Int64} : ∀ r g', gXL h M t a r g' → (ms_m h M t).length ≤ g'.length ∧ ms_tot (ms_m h M t) ≤ ms_tot g' := by
  intro r g' hh
  obtain ⟨N, _, e, _⟩ := hh
  rw [e]
  exact ⟨ms_m_l, ms_m_t⟩
theorem ab_n_q (hi : i < (ab_l A p).length) : ab_n A (q_e A p i) = i := by
  obtain ⟨h1, h2⟩ := q_e_lt hi
  have k1 := ab_n_lt h1
  have k2 := q_e_n h1
  rw [h2] at k1 k2
  exact q_e_inj k1 hi k2
theorem mlo_in (hC : MC A p S M) (hi : i < (ab_l A p).length) (hs : s < S.length) (hne : q_lf A p S i s ≠ NW) : md_a M 37 (9 * i + s) = nI (ab_lf A (q_e A p i) (S.getD s 0)).2 := by
  rw [((hC.1.2 i hi).2.2 s hs).2]
  unfold mlo
  exact if_neg hne
theorem n_findTree (w : MX A M) (hd : day < 100) : ms_H' (d + 10) 232 [.ref h.length, .int (nI day)] (ms_m h M t) (gN gA h M t (MT2 A day)) := by
  have w1 := w.1.1
  refine mx_m (fun a b c => m_X9_findTree a b ⟨_, ms_m_0⟩ c) gN_l (b_X9_findTree_0 ?_)
  simp only [ms_oR_e, ms_oI_e, ms_oL_e, mm_f41, mm_p41]
  have main : ∀ r p N, p + r = ab_p A → md_fr gA M N → (∀ e, e < ab_e A → md_a N 40 e = if ab_en A e 0 < p ∧ ab_es A e day = true then or_I (ab_or A e day) else -2) → md_i N 41 = nI (sm (fun p => if ab_s A p day then (lb A p (ab_src A p day)).1 else 0) p) → ms_V cd_X9_findTree none 0 (ms_Cl (d + 9)) (gN gA h M t (MT2 A day)) 33 [(0, .ref h.length), (1, .int (nI day)), (2, .int (nI p))] [] (ms_m h N t) := by
    intro r
    induction r with
    | zero =>
      intro p N hp hf hc hs
      have wN := w.fr hf rfl
      refine b_X9_findTree_33 (ms_oR_i mm_f3 (n_pc wN ?_))
      refine ms_yes ((ms_nle (by omega) (by omega)).mpr (by omega)) ⟨N, hf, rfl, rfl, fun e he => ?_, ?_⟩
      · have := (w.1.2.2.2.2.1 e he).1
        rw [hc e he]
        by_cases hes : ab_es A e day = true
        · rw [if_pos ⟨by omega, hes⟩, if_pos hes]
        · rw [if_neg (fun z => hes z.2), if_neg hes]
      · rw [hs, show p = ab_p A by omega]
        rfl
    | succ r ih =>
      intro p N hp hf hc hs
      have wN := w.fr hf rfl
      have hn := w.1.2.2.2.2.2 p
      refine b_X9_findTree_33 (ms_oR_i mm_f3 (n_pc wN ?_))
      refine ms_no (fun z => by rw [ms_nle (by omega) (by omega)] at z; omega) (ms_c1_i (n_isSeen wN hd (by omega)) ?_)
      rw [show nI p + 1 = nI (p + 1) from ms_p1 1]
      have hsm : sm (fun p => if ab_s A p day then (lb A p (ab_src A p day)).1 else 0) (p + 1) = sm (fun p => if ab_s A p day then (lb A p (ab_src A p day)).1 else 0) p + (if ab_s A p day then (lb A p (ab_src A p day)).1 else 0) := rfl
      refine ms_ifT (fun hg => ?_) (fun hg => ?_)
      · refine ih (p + 1) N (by omega) hf (fun e he => ?_) ?_
        · rw [hc e he]
          by_cases hep : ab_en A e 0 = p
          · rw [if_neg (fun z => by omega), if_neg (fun z => by
              have := z.2
              unfold ab_es at this
              rw [hep, hg] at this
              cases this)]
          · by_cases hes : ab_en A e 0 < p ∧ ab_es A e day = true
            · rw [if_pos hes, if_pos ⟨by omega, hes.2⟩]
            · rw [if_neg hes, if_neg (fun z => hes ⟨by omega, z.2⟩)]
        · rw [hsm, hg]
          exact hs
      · refine my_n0 (n_findLeast wN (by omega) hd) (fun N2 hf2 hL => ?_)
        have a40 : ∀ e, md_a N2 40 e = md_a N 40 e := (hf2 40 rfl).2.2.1
        simp only [ms_oR_e, ms_oI_e, ms_oL_e, mm_f38, mm_p38, mm_f41, mm_p41]
        rw [hL.2.1, (hf2 41 rfl).1, hs, ms_p1]
        rw [hg, if_pos rfl] at hsm
        rw [← hsm]
        have hb2 := (lb_le (A := A) (p := p) (S := ab_src A p day) hL.1.1.1.2.1 hn).2
        have hp9 : 2 ^ (ab_src A p day).length ≤ 512 := Nat.pow_le_pow_right (by decide) hL.1.1.1.2.1
        have hS9 := hL.1.1.1.2.1
        suffices H : ∀ r2 i L, i + r2 = (ab_l A p).length → md_fr gA M L → MC A p (ab_src A p day) L → md_i L 39 = nI (lb A p (ab_src A p day)).2 → md_i L 41 = nI (sm (fun p => if ab_s A p day then (lb A p (ab_src A p day)).1 else 0) (p + 1)) → (∀ e, e < ab_e A → md_a L 40 e = if (ab_en A e 0 < p ∧ ab_es A e day = true) ∨ (ab_en A e 0 = p ∧ ab_n A e < i) then or_I (ab_or A e day) else -2) → ms_V cd_X9_findTree none 0 (ms_Cl (d + 9)) (gN gA h M t (MT2 A day)) 73 [(0, .ref h.length), (1, .int (nI day)), (2, .int (nI p)), (3, .int (nI i))] [] (ms_m h L t) by
          refine H (ab_l A p).length 0 _ (by omega) (mr_i (mr_t hf (mr_s hf2 gS_gA)) rfl) (MC_ui hL.1 (by decide)) (by rw [md_i_ne (by decide)]; exact hL.2.2) md_i_at (fun e he => ?_)
          show md_a N2 40 e = _
          rw [a40, hc e he]
          by_cases hes : ab_en A e 0 < p ∧ ab_es A e day = true
          · rw [if_pos hes, if_pos (Or.inl hes)]
          · rw [if_neg hes, if_neg (fun z => z.elim hes (fun z2 => Nat.not_lt_zero _ z2.2))]
        intro r2
        induction r2 with
        | zero =>
          intro i L hi hfL hC h39 h41 h40
          refine b_X9_findTree_73 (ms_oI_i mm_f33 ?_)
          rw [hC.2]
          refine ms_yes ((ms_nle (by omega) (by omega)).mpr (by omega)) ?_
          rw [show nI p + 1 = nI (p + 1) from ms_p1 1]
          refine ih (p + 1) L (by omega) hfL (fun e he => ?_) h41
          rw [h40 e he]
          by_cases hep : ab_en A e 0 = p
          · have hnl := ab_n_lt he
            rw [hep] at hnl
            rw [if_pos (Or.inr ⟨hep, by omega⟩), if_pos ⟨by omega, by unfold ab_es; rw [hep]; exact hg⟩]
          · by_cases hes : ab_en A e 0 < p ∧ ab_es A e day = true
            · rw [if_pos (Or.inl hes), if_pos ⟨by omega, hes.2⟩]
            · rw [if_neg (fun z => z.elim hes (fun z2 => hep z2.1)), if_neg (fun z => hes ⟨by omega, z.2⟩)]
        | succ r2 ih2 =>
          intro i L hi hfL hC h39 h41 h40
          have hil : i < (ab_l A p).length := by omega
          obtain ⟨he1, he2⟩ := q_e_lt hil
          have hni := ab_n_q hil
          refine b_X9_findTree_73 (ms_oI_i mm_f33 ?_)
          rw [hC.2]
          refine ms_no (fun z => by rw [ms_nle (by omega) (by omega)] at z; omega) (ms_oI_i mm_f39 ?_)
          rw [h39]
          refine ms_c1_i (n_bestSource hC hn hil (by omega)) ?_
          have hbo := bs_ok (l := q_lf A p (ab_src A p day) i) (x := (lb A p (ab_src A p day)).2) (fun s => q_lf_le) (ab_src A p day).length
          have hor : ab_or A (q_e A p i) day = q_or A p (ab_src A p day) (lb A p (ab_src A p day)).2 i := by
            unfold ab_or
            rw [he2, hni]
          have hlk := q_lk_le (A := A) (p := p) (i := i)
          rw [q_or_bs] at hor
          rw [show nI i + 1 = nI (i + 1) from ms_p1 1]
          refine ms_oR_i mm_f40 (ms_oR_i mm_f34 ?_)
          rw [mm_r34]
          refine ⟨ms_in (by omega) (by decide), ?_⟩
          rw [ms_nc (by omega), (hC.1.2 i hil).1]
          have fin : ∀ v, v = or_I (ab_or A (q_e A p i) day) → ms_wI (ms_m h L t) (h.length + 20) (nI (q_e A p i)) v fun g8 => ms_V cd_X9_findTree none 0 (ms_Cl (d + 9)) (gN gA h M t (MT2 A day)) 73 [(0, .ref h.length), (1, .int (nI day)), (2, .int (nI p)), (3, .int (nI (i + 1)))] [] g8 := by
            intro v hv
            rw [mm_w40]
            refine ⟨ms_in (by omega) (by decide), ?_⟩
            rw [ms_nc (by omega)]
            refine ih2 (i + 1) _ (by omega) (mr_a hfL rfl) ⟨⟨⟨hC.1.1.1, hC.1.1.2.1, fun s hs => ?_⟩, fun k hk => ?_⟩, hC.2⟩ h39 h41 (fun e he => ?_)
            · rw [md_a_ua, md_a_ua, if_neg (fun z => by omega), if_neg (fun z => by omega)]
              exact hC.1.1.2.2 s hs
            · rw [md_a_ua, md_a_ua, if_neg (fun z => by omega), if_neg (fun z => by omega)]
              refine ⟨(hC.1.2 k hk).1, (hC.1.2 k hk).2.1, fun s hs => ?_⟩
              rw [md_a_ua, md_a_ua, if_neg (fun z => by omega), if_neg (fun z => by omega)]
              exact (hC.1.2 k hk).2.2 s hs
            · rw [md_a_ua]
              by_cases hee : e = q_e A p i
              · rw [if_pos ⟨rfl, hee⟩, hv, hee, if_pos (Or.inr ⟨he2, by omega⟩)]
              · rw [if_neg (fun z => hee z.2), h40 e he]
                by_cases hc1 : (ab_en A e 0 < p ∧ ab_es A e day = true) ∨ (ab_en A e 0 = p ∧ ab_n A e < i)
                · rw [if_pos hc1, if_pos (hc1.imp id (fun z => ⟨z.1, by omega⟩))]
                · rw [if_neg hc1, if_neg (fun z => ?_)]
                  rcases z with z | z
                  · exact hc1 (Or.inl z)
                  · by_cases hni2 : ab_n A e = i
                    · refine hee ?_
                      have := q_e_n he
                      rw [z.1, hni2] at this
                      exact this.symm
                    · exact hc1 (Or.inr ⟨z.1, by omega⟩)
          cases hbs : bs (q_lf A p (ab_src A p day) i) (lb A p (ab_src A p day)).2 (ab_src A p day).length with
          | none =>
            rw [hbs] at hbo hor
            refine ms_yes rfl (fin _ ?_)
            rw [hor]
            split <;> rfl
          | some b =>
            rw [hbs] at hbo hor
            obtain ⟨i1, i2, i3, i4, i5⟩ := hbo
            unfold NW at i4
            refine ms_no (nI_m1 (x := b) (by omega)) (ms_oR_i mm_f35 ?_)
            rw [mm_r35]
            refine ⟨ms_in (by omega) (by decide), ms_oR_i mm_f36 ?_⟩
            rw [show ((9 : Int32) * nI i) + bsI (some b) = nI (9 * i + b) from nI_p9, mm_r36]
            refine ⟨ms_in (by omega) (by decide), ?_⟩
            rw [ms_nc (by omega), ms_nc (by omega), (hC.1.2 i hil).2.1, mlf_ne hC hil i1 (by unfold NW; omega)]
            refine ms_ite2 (fun z => ?_) (fun z => ?_)
            · rw [ms_nlt (by omega) (by omega)] at z
              refine ms_oR_i mm_f37 ?_
              rw [mm_r37]
              refine ⟨ms_in (by omega) (by decide), fin _ ?_⟩
              rw [ms_nc (by omega), mlo_in hC hil i1 (by unfold NW; omega), hor, if_neg (by omega)]
              rfl
            · rw [ms_nlt (by omega) (by omega)] at z
              refine fin _ ?_
              rw [hor, if_pos (by omega)]
              rfl
  suffices H : ∀ r e N, e + r = ab_e A → md_fr gA M N → md_i N 41 = 0 → (∀ i, i < e → md_a N 40 i = -2) → ms_V cd_X9_findTree none 0 (ms_Cl (d + 9)) (gN gA h M t (MT2 A day)) 7 [(0, .ref h.length), (1, .int (nI day)), (2, .int (nI e))] [] (ms_m h N t) from H (ab_e A) 0 _ (by omega) (mr_i mr_0 rfl) md_i_at (fun i hi => absurd hi (Nat.not_lt_zero i))
  intro r
  induction r with
  | zero =>
    intro e N he hf h41 ha
    have wN := w.fr hf rfl
    refine b_X9_findTree_7 (ms_oR_i mm_f3 (n_ec wN ?_))
    refine ms_yes ((ms_nle (by omega) (by omega)).mpr (by omega)) ?_
    refine main (ab_p A) 0 N (by omega) hf (fun i hi => ?_) h41
    rw [ha i (by omega), if_neg (fun z => Nat.not_lt_zero _ z.1)]
  | succ r ih =>
    intro e N he hf h41 ha
    have wN := w.fr hf rfl
    refine b_X9_findTree_7 (ms_oR_i mm_f3 (n_ec wN ?_))
    refine ms_no (fun z => by rw [ms_nle (by omega) (by omega)] at z; omega) (ms_oR_i mm_f40 ?_)
    rw [mm_w40]
    refine ⟨ms_in (by omega) (by decide), ?_⟩
    rw [ms_nc (by omega), show nI e + 1 = nI (e + 1) from ms_p1 1]
    refine ih (e + 1) _ (by omega) (mr_a hf rfl) h41 (fun i hi => ?_)
    rw [md_a_ua]
    by_cases hie : i = e
    · rw [if_pos ⟨rfl, hie⟩]
    · rw [if_neg (fun z => hie z.2)]
      exact ha i (by omega)
theorem n_day (g : ms_S) : ms_Cl (d + 2) 143 [.int q] g (some (.int (ms_bi (ms_ix 100 q)))) g := by
  have k := c9_isDay (d := d) (v := q) (g := g)
  rw [show md_in q 0 99 = ms_ix 100 q from md_in_ix (k := 99) (by decide)] at k
  exact k
theorem n_inK (k : Nat) (hk : k < 2 ^ 31 - 1) (b : Int64) (hb : (nI k).toInt64 = b) (g : ms_S) : ms_Cl (d + 1) 141 [.long (Int32.toInt64 q), .long 0, .long b] g (some (.int (ms_bi (ms_ix (k + 1) q)))) g := by
  have := c9_inI (d := d) (v := q) (g := g) 0 (nI k) (a := 0) (b := b) (by decide) hb
  rw [md_in_ix hk] at this
  exact this
theorem n_least (w : MX A M) {p : Int32} {x : Int32} : ms_H' (d + 10) 229 [.ref h.length, .int p, .int q, .int x] (ms_m h M t) (gX h M t (an_least A p q x)) := by
  refine mx_m (fun a b c => m_X9_least a b ⟨_, ms_m_0⟩ c) gQ_l (b_X9_least_0 ?_)
  simp only [ms_oR_e, ms_oI_e, ms_oL_e, mm_f0, mm_p0]
  have w0 : MX A (md_ui M 0 0) := w
  have f0 : md_fr gA M (md_ui M 0 0) := mr_i mr_0 rfl
  unfold an_least
  refine ms_c1_i (n_day _) (ms_ifT (fun hg => ?_) (fun hg => ?_))
  · unfold an_seen
    rw [hg, Bool.false_and, Bool.and_false]
    exact ⟨_, f0, rfl, rfl⟩
  obtain ⟨j, hj, rfl, f2, _⟩ := ms_ix_k hg
  refine ms_c1_i (n_seenI w0 hj) (ms_ifT (fun hg2 => ?_) (fun hg2 => ?_))
  · rw [hg2]
    exact ⟨_, f0, rfl, rfl⟩
  obtain ⟨i, j2, rfl, e0, e1, e2, hi, hj2, hs⟩ := seen_k hg2
  rw [hg2, e1, f2, Bool.true_and]
  refine ms_c1_i (n_inK 2 (by decide) 2 (by decide) _) (ms_ifT (fun hg3 => ?_) (fun hg3 => ?_))
  · rw [hg3]
    exact ⟨_, f0, rfl, rfl⟩
  rw [hg3, if_pos rfl]
  refine my_n0 (n_findLeast w0 hi hj) (fun N hf hL => ?_)
  have fN : md_fr gA M N := mr_t f0 (mr_s hf gS_gA)
  refine ms_ite2 (fun z => ?_) (fun z => ?_)
  · refine ms_oI_i mm_f38 ⟨N, fN, rfl, ?_⟩
    rw [if_pos z, hL.2.1]
  · rw [if_neg z]
    refine ms_ite2 (fun z2 => ?_) (fun z2 => ?_)
    · refine ms_oI_i mm_f30 ⟨N, fN, rfl, ?_⟩
      rw [if_pos z2, hL.1.1.1.1]
    · refine ms_oI_i mm_f39 ⟨N, fN, rfl, ?_⟩
      rw [if_neg z2, hL.2.2]
theorem n_source (w : MX A M) {p : Int32} {x : Int32} : ms_H' (d + 6) 230 [.ref h.length, .int p, .int q, .int x] (ms_m h M t) (gX h M t (an_source A p q x)) := by
  refine mx_m (fun a b c => m_X9_source a b ⟨_, ms_m_0⟩ c) gQ_l (b_X9_source_0 ?_)
  simp only [ms_oR_e, ms_oI_e, ms_oL_e, mm_f0, mm_p0]
  have w0 : MX A (md_ui M 0 0) := w
  have f0 : md_fr gA M (md_ui M 0 0) := mr_i mr_0 rfl
  unfold an_source
  refine ms_c1_i (n_day _) (ms_ifT (fun hg => ?_) (fun hg => ?_))
  · unfold an_seen
    rw [hg, Bool.false_and, Bool.and_false]
    exact ⟨_, f0, rfl, rfl⟩
  obtain ⟨j, hj, rfl, f2, _⟩ := ms_ix_k hg
  refine ms_c1_i (n_seenI w0 hj) (ms_ifT (fun hg2 => ?_) (fun hg2 => ?_))
  · rw [hg2]
    exact ⟨_, f0, rfl, rfl⟩
  obtain ⟨i, j2, rfl, e0, e1, e2, hi, hj2, hs⟩ := seen_k hg2
  rw [hg2, e1, f2, if_pos rfl]
  refine my_n0 (n_findSources w0 hi hj) (fun N hf hL => ?_)
  have fN : md_fr gA M N := mr_t f0 (mr_s hf gS_gA)
  have h9 := hL.2.1
  refine ms_oI_i mm_f30 ?_
  rw [hL.1]
  unfold an_nth
  refine ms_c1_i (c9_inN (by omega)) (ms_ifT (fun hg3 => ?_) (fun hg3 => ?_))
  · rw [hg3]
    exact ⟨_, fN, rfl, rfl⟩
  rw [hg3, if_pos rfl]
  obtain ⟨k, hk, rfl, k2, _⟩ := ms_ix_k hg3
  rw [k2]
  refine ms_oR_i mm_f31 ?_
  rw [mm_r31]
  refine ⟨ms_in (by omega) (by decide), N, fN, rfl, ?_⟩
  rw [ms_nc (by omega), (hL.2.2 k hk).1]
theorem sh1L : ∀ m, m < 10 → ((1 : Int64) <<< (Int32.toInt64 (nI m) &&& 63)) = Int32.toInt64 (nI (2 ^ m)) := by decide +kernel
theorem n_judge (w : MX A M) {p : Int32} {x : Int32} : ms_H' (d + 9) 231 [.ref h.length, .int p, .int x, .int q] (ms_m h M t) (gX h M t (an_judge A p x q)) := by
  refine mx_m (fun a b c => m_X9_judge a b ⟨_, ms_m_0⟩ c) gQ_l (b_X9_judge_0 ?_)
  simp only [ms_oR_e, ms_oI_e, ms_oL_e, mm_f0, mm_p0]
  have w0 : MX A (md_ui M 0 0) := w
  have f0 : md_fr gA M (md_ui M 0 0) := mr_i mr_0 rfl
  unfold an_judge
  refine ms_c1_i (n_day _) (ms_ifT (fun hg => ?_) (fun hg => ?_))
  · unfold an_seen
    rw [hg, Bool.false_and, Bool.and_false]
    exact ⟨_, f0, rfl, rfl⟩
  obtain ⟨j, hj, rfl, f2, _⟩ := ms_ix_k hg
  refine ms_c1_i (n_seenI w0 hj) (ms_ifT (fun hg2 => ?_) (fun hg2 => ?_))
  · rw [hg2]
    exact ⟨_, f0, rfl, rfl⟩
  obtain ⟨i, j2, rfl, e0, e1, e2, hi, hj2, hs⟩ := seen_k hg2
  rw [hg2, e1, f2, Bool.true_and]
  refine my_n0 (n_findCosts w0 hi hj) (fun N hf hL => ?_)
  have fN : md_fr gA M N := mr_t f0 (mr_s hf gS_gA)
  have h9 := hL.1.1.2.1
  have hn := w.1.2.2.2.2.2 i
  have hp9 : 2 ^ (ab_src A i j).length ≤ 512 := Nat.pow_le_pow_right (by decide) h9
  refine ms_oI_i mm_f30 ?_
  rw [hL.1.1.1, sh1L _ (by omega)]
  refine ms_c1_i (c9_inN (by omega)) (ms_ifT (fun hg3 => ?_) (fun hg3 => ?_))
  · rw [hg3]
    exact ⟨_, fN, rfl, rfl⟩
  rw [hg3, if_pos rfl]
  obtain ⟨k, hk, rfl, k2, _⟩ := ms_ix_k hg3
  rw [k2]
  exact ms_c1_i (n_sumBy hL hn (by omega)) ⟨N, fN, rfl, rfl⟩
theorem n_entI (w : MX A M) {e : Int32} : ms_Cl (d + 2) 148 [.ref h.length, .int e] (ms_m h M t) (some (.int (ms_bi (ms_ix (ab_e A) e)))) (ms_m h M t) := c9_isEntry w.n2 (by have := w.1.1; omega)
theorem n_from (w : MX A M) {e : Int32} : ms_H' (d + 11) 233 [.ref h.length, .int e, .int q] (ms_m h M t) (gX h M t (an_from A e q)) := by
  refine mx_m (fun a b c => m_X9_from a b ⟨_, ms_m_0⟩ c) gQ_l (b_X9_from_0 ?_)
  simp only [ms_oR_e, ms_oI_e, ms_oL_e, mm_f0, mm_p0]
  have w0 : MX A (md_ui M 0 0) := w
  have f0 : md_fr gA M (md_ui M 0 0) := mr_i mr_0 rfl
  have w1 := w.1.1
  unfold an_from an_es
  refine ms_c1_i (n_entI w0) (ms_ifT (fun hg => ?_) (fun hg => ?_))
  · rw [hg]
    exact ⟨_, f0, rfl, rfl⟩
  rw [hg, Bool.true_and]
  refine ms_c1_i (n_day _) (ms_ifT (fun hg2 => ?_) (fun hg2 => ?_))
  · rw [hg2]
    exact ⟨_, f0, rfl, rfl⟩
  rw [hg2, Bool.true_and]
  obtain ⟨i, hi, rfl, e2, _⟩ := ms_ix_k hg
  obtain ⟨j, hj, rfl, f2, _⟩ := ms_ix_k hg2
  rw [e2, f2]
  refine my_n0 (n_findTree w0 hj) (fun N hf hL => ?_)
  refine ms_oR_i mm_f40 ?_
  rw [mm_r40]
  refine ⟨ms_in (by omega) (by decide), N, mr_t f0 hf, rfl, ?_⟩
  rw [ms_nc (by omega), hL.1 i hi]
end Mdd
