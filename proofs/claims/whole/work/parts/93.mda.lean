/-! THE MODEL: sources, costs of a paper; written by wip/whole/mdl.py from mda.txt -/
def gU (k : Nat) : Bool := decide ((25 ≤ k ∧ k ≤ 29) ∨ k = 36 ∨ k = 37)
def gS (k : Nat) : Bool := decide (25 ≤ k ∧ k ≤ 39)
def gA (k : Nat) : Bool := decide (k = 0 ∨ (25 ≤ k ∧ k ≤ 49))
def mlf (x : Nat × Nat) : Int32 := if x.1 = NW then -1 else nI x.1
def mlo (x : Nat × Nat) : Int32 := if x.1 = NW then -1 else nI x.2
/-- the sources stand in the model -/
def MSo (A : ab_T) (p : Nat) (S : List Nat) (N : md_T) : Prop := md_i N 30 = nI S.length ∧ S.length ≤ 9 ∧ ∀ s, s < S.length → md_a N 31 s = nI (S.getD s 0) ∧ md_a N 32 s = nI (q_op A p S s)
/-- so do the costs of the first k places -/
def MCo (A : ab_T) (p : Nat) (S : List Nat) (N : md_T) (k : Nat) : Prop := MSo A p S N ∧ ∀ i, i < k → md_a N 34 i = nI (q_e A p i) ∧ md_a N 35 i = nI (q_lk A p i) ∧ ∀ s, s < S.length → md_a N 36 (9 * i + s) = mlf (ab_lf A (q_e A p i) (S.getD s 0)) ∧ md_a N 37 (9 * i + s) = mlo (ab_lf A (q_e A p i) (S.getD s 0))
def MC (A : ab_T) (p : Nat) (S : List Nat) (N : md_T) : Prop := MCo A p S N (ab_l A p).length ∧ md_i N 33 = nI (ab_l A p).length
section Mda
variable {d i j k n p o e f u v x y s r c day : Nat} {h t : ms_S} {M N L : md_T} {S' S2 : Nat → Bool} {A : ab_T} {S : List Nat} {P : Nat → Bool} {q w : Int32}
theorem gQ_l {S : Nat → Bool} {v : Int32} : ∀ r g', gQ S h M t v r g' → (ms_m h M t).length ≤ g'.length ∧ ms_tot (ms_m h M t) ≤ ms_tot g' := by
  intro r g' hh
  obtain ⟨N, _, e, _⟩ := hh
  rw [e]
  exact ⟨ms_m_l, ms_m_t⟩
theorem gN_l {S : Nat → Bool} {P : md_T → Prop} : ∀ r g', gN S h M t P r g' → (ms_m h M t).length ≤ g'.length ∧ ms_tot (ms_m h M t) ≤ ms_tot g' := by
  intro r g' hh
  obtain ⟨N, _, e, _⟩ := hh
  rw [e]
  exact ⟨ms_m_l, ms_m_t⟩
theorem MX.n0 (w : MX A M) : md_a M 3 0 = nI (ab_t A) := w.2.1.1
theorem MX.n1 (w : MX A M) : md_a M 3 1 = nI (ab_p A) := w.2.1.2.1
theorem MX.n2 (w : MX A M) : md_a M 3 2 = nI (ab_e A) := w.2.1.2.2.1
theorem n_pc (w : MX A M) {K : Int32 → Prop} (hK : K (nI (ab_p A))) : ms_rI (ms_m h M t) (h.length + 2) 0 1 K := n_rd (k := 1) (by decide) w.n1 hK
theorem n_ec (w : MX A M) {K : Int32 → Prop} (hK : K (nI (ab_e A))) : ms_rI (ms_m h M t) (h.length + 2) 0 2 K := n_rd (k := 2) (by decide) w.n2 hK
theorem n_seenI (w : MX A M) (hd : day < 100) {p : Int32} : ms_Cl (d + 3) 218 [.ref h.length, .int p, .int (nI day)] (ms_m h M t) (some (.int (ms_bi (an_seen A p (nI day))))) (ms_m h M t) := by
  have w1 := w.1.1
  refine m_X9_isSeen (Nat.le_refl _) (Nat.le_refl _) ⟨_, ms_m_0⟩ (b_X9_isSeen_0 (Q := ms_lf _ _) (ms_c1_i (c9_isPaper w.n1 (by omega)) ?_))
  unfold an_seen
  refine ms_ifT (fun hg => ?_) (fun hg => ?_)
  · rw [hg]
    exact ⟨(by first | exact Or.inr rfl | exact Or.inl rfl | exact Or.inl trivial | exact Or.inr trivial | trivial), rfl, rfl⟩
  obtain ⟨i, hi, rfl, e2, _⟩ := ms_ix_k hg
  have hp2 := w.1.2.2.1 i 2
  rw [hg, e2, Bool.true_and, ms_ix_nI (by omega), decide_eq_true hd, Bool.true_and, ms_nc (by omega)]
  refine ms_oR_i mm_f3 (ms_c1_i n_paperAt ?_)
  rw [show nI (58 + 3 * i) + 2 = nI (58 + 3 * i + 2) from ms_p1 2]
  refine n_rd (by omega) (w.2.2.2.1 i 2 hi (by decide)) ?_
  unfold ab_s
  rw [decide_eq_true hi, decide_eq_true (show day ≤ 99 by omega), Bool.true_and, Bool.true_and]
  refine ms_ite2 (fun z => ?_) (fun z => ?_)
  · rw [ms_nlt (by omega) (by omega)] at z
    rw [decide_eq_false (by omega)]
    exact ⟨(by first | exact Or.inr rfl | exact Or.inl rfl | exact Or.inl trivial | exact Or.inr trivial | trivial), rfl, rfl⟩
  · rw [ms_nlt (by omega) (by omega)] at z
    rw [decide_eq_true (by omega)]
    exact ⟨(by first | exact Or.inr rfl | exact Or.inl rfl | exact Or.inl trivial | exact Or.inr trivial | trivial), rfl, rfl⟩
theorem n_isSeen (w : MX A M) (hd : day < 100) (hp : p < 2 ^ 31) : ms_Cl (d + 3) 218 [.ref h.length, .int (nI p), .int (nI day)] (ms_m h M t) (some (.int (ms_bi (ab_s A p day)))) (ms_m h M t) := by
  have k := n_seenI (d := d) (h := h) (t := t) w hd (p := nI p)
  have e : an_seen A (nI p) (nI day) = ab_s A p day := by
    unfold an_seen
    rw [ms_ix_nI hp, ms_ix_nI (by omega), decide_eq_true hd, Bool.true_and, ms_nc hp, ms_nc (by omega)]
    unfold ab_s
    by_cases hpp : p < ab_p A
    · rw [decide_eq_true hpp, Bool.true_and]
    · rw [decide_eq_false hpp, Bool.false_and, Bool.false_and]
  rw [e] at k
  exact k
def shF (A : ab_T) (o e : Nat) (n : Nat) : Bool := (List.range n).any (fun f => decide (ab_en A f 0 = o) && decide (ab_en A f 1 = ab_en A e 1))
def shE (A : ab_T) (p o : Nat) (n : Nat) : Bool := (List.range n).any (fun e => decide (ab_en A e 0 = p) && shF A o e (ab_e A))
theorem sh_eq : ab_sh A p o = shE A p o (ab_e A) := by
  unfold ab_sh shE shF ab_l
  rw [List.any_filter]
  congr 1
  funext e
  rw [List.any_filter]
theorem any_s {P : Nat → Bool} : (List.range (n + 1)).any P = ((List.range n).any P || P n) := by
  rw [List.range_succ, List.any_append]
  simp
theorem n_sharesP (w : MX A M) (hp : p < 2 ^ 31) (ho : o < 2 ^ 31) : ms_Cl (d + 3) 219 [.ref h.length, .int (nI p), .int (nI o)] (ms_m h M t) (some (.int (ms_bi (ab_sh A p o)))) (ms_m h M t) := by
  have w1 := w.1.1
  refine m_X9_shares (Nat.le_refl _) (Nat.le_refl _) ⟨_, ms_m_0⟩ (b_X9_shares_0 (Q := ms_lf _ _) ?_)
  rw [sh_eq]
  suffices H : ∀ r e, e + r = ab_e A → ms_V cd_X9_shares none 4 (ms_Cl (d + 2)) (ms_lf (some (.int (ms_bi (shE A p o (ab_e A))))) (ms_m h M t)) 5 [(0, .ref h.length), (1, .int (nI p)), (2, .int (nI o)), (3, .int (ms_bi (shE A p o e))), (4, .int (nI e))] [] (ms_m h M t) from H (ab_e A) 0 (by omega)
  intro r
  induction r with
  | zero =>
    intro e he
    refine b_X9_shares_5 (ms_oR_i mm_f3 (n_ec w ?_))
    refine ms_yes ((ms_nle (by omega) (by omega)).mpr (by omega)) ⟨ms_bi_01 _, ?_, rfl⟩
    rw [show ab_e A = e by omega]
  | succ r ih =>
    intro e he
    refine b_X9_shares_5 (ms_oR_i mm_f3 (n_ec w ?_))
    refine ms_no (fun z => by rw [ms_nle (by omega) (by omega)] at z; omega) ?_
    have hse : shE A p o (e + 1) = (shE A p o e || (decide (ab_en A e 0 = p) && shF A o e (ab_e A))) := any_s
    have t0 := w.1.2.2.2.1 e 0
    have t1 := w.1.2.2.2.1 e 1
    have H := ih (e + 1) (by omega)
    rw [hse] at H
    suffices H2 : ∀ r f, f + r = ab_e A → (ab_en A e 0 = p ∨ f = 0) → ms_V cd_X9_shares none 4 (ms_Cl (d + 2)) (ms_lf (some (.int (ms_bi (shE A p o (ab_e A))))) (ms_m h M t)) 19 [(0, .ref h.length), (1, .int (nI p)), (2, .int (nI o)), (3, .int (ms_bi (shE A p o e || (decide (ab_en A e 0 = p) && shF A o e f)))), (4, .int (nI e)), (5, .int (nI f))] [] (ms_m h M t) by
      have := H2 (ab_e A) 0 (by omega) (Or.inr rfl)
      rw [show shF A o e 0 = false from rfl, Bool.and_false, Bool.or_false] at this
      exact this
    intro r2
    induction r2 with
    | zero =>
      intro f hf hpf
      refine b_X9_shares_19 (ms_oR_i mm_f3 (n_ec w ?_))
      refine ms_yes ((ms_nle (by omega) (by omega)).mpr (by omega)) ?_
      rw [show nI e + 1 = nI (e + 1) from ms_p1 1, show f = ab_e A by omega]
      exact H
    | succ r2 ih2 =>
      intro f hf hpf
      have t2 := w.1.2.2.2.1 f 0
      have t3 := w.1.2.2.2.1 f 1
      refine b_X9_shares_19 (ms_oR_i mm_f3 (n_ec w ?_))
      refine ms_no (fun z => by rw [ms_nle (by omega) (by omega)] at z; omega) (ms_c1_i (n_paperOf w (by omega)) ?_)
      refine ms_ite2 (fun z => ?_) (fun z => ?_)
      · rw [ms_nI_eq (by omega) (by omega)] at z
        have H3 := ih2 (f + 1) (by omega) (Or.inl z)
        have hsf : shF A o e (f + 1) = (shF A o e f || (decide (ab_en A f 0 = o) && decide (ab_en A f 1 = ab_en A e 1))) := any_s
        rw [decide_eq_true z, Bool.true_and] at H3 ⊢
        rw [hsf, ← Bool.or_assoc] at H3
        rw [show nI f + 1 = nI (f + 1) from ms_p1 1]
        generalize (shE A p o e || shF A o e f) = acc at *
        refine ms_ifT (fun hg => ?_) (fun hg => ?_)
        · rw [hg, Bool.false_or] at H3
          refine ms_c1_i (n_paperOf w (by omega)) (ms_ite2 (fun z2 => ?_) (fun z2 => ?_))
          · rw [ms_nI_eq (by omega) (by omega)] at z2
            rw [decide_eq_true z2, Bool.true_and] at H3
            refine ms_c1_i (n_thingOf w (by omega)) (ms_c1_i (n_thingOf w (by omega)) (ms_ite2 (fun z3 => ?_) (fun z3 => ?_)))
            · rw [ms_nI_eq (by omega) (by omega)] at z3
              rw [decide_eq_true z3] at H3
              exact H3
            · rw [ms_nI_eq (by omega) (by omega)] at z3
              rw [decide_eq_false z3] at H3
              exact H3
          · rw [ms_nI_eq (by omega) (by omega)] at z2
            rw [decide_eq_false z2, Bool.false_and] at H3
            exact H3
        · rw [hg, Bool.true_or] at H3
          exact H3
      · rw [ms_nI_eq (by omega) (by omega)] at z
        rw [decide_eq_false z, Bool.false_and, Bool.or_false] at H ⊢
        rw [show nI e + 1 = nI (e + 1) from ms_p1 1]
        exact H
theorem filt_s {P : Nat → Bool} : (List.range (n + 1)).filter P = (List.range n).filter P ++ (if P n then [n] else []) := by
  rw [List.range_succ, List.filter_append]
  congr 1
  by_cases hc : P n = true
  · rw [List.filter_cons, if_pos hc, if_pos hc]; rfl
  · rw [List.filter_cons, if_neg hc, if_neg hc]; rfl
theorem filt_more (hP : ∀ k, o ≤ k → P k = false) : ∀ r : Nat, (List.range (o + r)).filter P = (List.range o).filter P
  | 0 => rfl
  | r + 1 => by
    rw [← Nat.add_assoc, filt_s, filt_more hP r, hP (o + r) (by omega)]
    simp
theorem filt_9 (h9 : 9 ≤ ((List.range o).filter P).length) : ∀ r : Nat, ((List.range (o + r)).filter P).take 9 = ((List.range o).filter P).take 9 ∧ 9 ≤ ((List.range (o + r)).filter P).length
  | 0 => ⟨rfl, h9⟩
  | r + 1 => by
    obtain ⟨i1, i2⟩ := filt_9 h9 r
    rw [← Nat.add_assoc, filt_s, List.take_append_of_le_length i2, List.length_append]
    exact ⟨i1, by omega⟩
theorem zT_S : ∀ c, gS c = false → zT c = false := fun c hc => decide_eq_false (fun z => of_decide_eq_false hc (by omega))
theorem zS_gS : ∀ c, gS c = false → zS c = false := fun c hc => decide_eq_false (fun z => of_decide_eq_false hc (by omega))
theorem gS_A : ∀ c, gA c = false → gS c = false := fun c hc => decide_eq_false (fun z => of_decide_eq_false hc (by omega))
theorem n_findSources (w : MX A M) (hp : p < ab_p A) (hd : day < 100) : ms_H' (d + 5) 220 [.ref h.length, .int (nI p), .int (nI day)] (ms_m h M t) (gN gS h M t (MSo A p (ab_src A p day))) := by
  have w1 := w.1.1
  refine mx_m (fun a b c => m_X9_findSources a b ⟨_, ms_m_0⟩ c) gN_l (b_X9_findSources_0 ?_)
  simp only [ms_oR_e, ms_oI_e, ms_oL_e, mm_f30, mm_p30]
  have hsrc : ∀ o, ab_p A ≤ o → ((List.range o).filter (fun o => ab_op A p o && ab_s A o day)).take 9 = ((List.range (ab_p A)).filter (fun o => ab_op A p o && ab_s A o day)).take 9 := by
    intro o ho
    have := filt_more (P := fun o => ab_op A p o && ab_s A o day) (o := ab_p A) (fun k hk => by
      show (ab_op A p k && ab_s A k day) = false
      unfold ab_s
      rw [decide_eq_false (by omega), Bool.false_and, Bool.and_false]) (o - ab_p A)
    rw [show ab_p A + (o - ab_p A) = o by omega] at this
    rw [this]
  have hS : ab_src A p day = ((List.range (ab_p A)).filter (fun o => ab_op A p o && ab_s A o day)).take 9 := hsrc 16 (by omega)
  generalize hPd : (fun o => ab_op A p o && ab_s A o day) = P at *
  have hPv : ∀ o, P o = (ab_op A p o && ab_s A o day) := fun o => by rw [← hPd]
  suffices H : ∀ r o N, o + r = ab_p A → md_fr gS M N → MSo A p (((List.range o).filter P).take 9) N → ms_V cd_X9_findSources none 0 (ms_Cl (d + 4)) (gN gS h M t (MSo A p (ab_src A p day))) 7 [(0, .ref h.length), (1, .int (nI p)), (2, .int (nI day)), (3, .int (nI o))] [] (ms_m h N t) from H (ab_p A) 0 _ (by omega) (mr_i mr_0 rfl) ⟨md_i_at, Nat.zero_le _, fun s hs => absurd hs (Nat.not_lt_zero s)⟩
  intro r
  induction r with
  | zero =>
    intro o N ho hf hm
    have wN := w.fr hf rfl
    refine b_X9_findSources_7 (ms_oR_i mm_f3 (n_pc wN ?_))
    refine ms_yes ((ms_nle (by omega) (by omega)).mpr (by omega)) ⟨N, hf, rfl, rfl, ?_⟩
    rw [hS, show ab_p A = o by omega]
    exact hm
  | succ r ih =>
    intro o N ho hf hm
    have wN := w.fr hf rfl
    refine b_X9_findSources_7 (ms_oR_i mm_f3 (n_pc wN ?_))
    refine ms_no (fun z => by rw [ms_nle (by omega) (by omega)] at z; omega) (ms_oI_i mm_f30 ?_)
    rw [hm.1]
    have hl9 := hm.2.1
    refine ms_ite2 (fun z => ?_) (fun z => ?_)
    · rw [show (9 : Int32) = nI 9 from rfl, ms_nle (by decide) (by omega), List.length_take] at z
      refine ⟨N, hf, rfl, rfl, ?_⟩
      have := (filt_9 (P := P) (o := o) (by omega) (ab_p A - o)).1
      rw [show o + (ab_p A - o) = ab_p A by omega] at this
      rw [hS, this]
      exact hm
    rw [show (9 : Int32) = nI 9 from rfl, ms_nle (by decide) (by omega)] at z
    have hlt : ((List.range o).filter P).length < 9 := by
      rw [List.length_take] at z
      omega
    have htk : ((List.range o).filter P).take 9 = (List.range o).filter P := List.take_of_length_le (by omega)
    rw [htk] at hm
    rw [show nI o + 1 = nI (o + 1) from ms_p1 1]
    have no : ∀ N2, md_fr gS M N2 → MSo A p ((List.range o).filter P) N2 → P o = false → ms_V cd_X9_findSources none 0 (ms_Cl (d + 4)) (gN gS h M t (MSo A p (ab_src A p day))) 7 [(0, .ref h.length), (1, .int (nI p)), (2, .int (nI day)), (3, .int (nI (o + 1)))] [] (ms_m h N2 t) := by
      intro N2 hf2 hm2 hno
      refine ih (o + 1) N2 (by omega) hf2 ?_
      rw [filt_s, hno]
      simp only [Bool.false_eq_true, if_false, List.append_nil]
      rw [htk]
      exact hm2
    have py := w.1.2.2.1 p 0
    have oy := w.1.2.2.1 o 0
    refine ms_ite2 (fun z2 => ?_) (fun z2 => ?_)
    · rw [ms_nI_eq (by omega) (by omega)] at z2
      refine no N hf hm ?_
      rw [hPv, z2]
      unfold ab_op
      rw [decide_eq_false (Nat.lt_irrefl _)]
      rfl
    refine ms_c1_i (n_isSeen wN hd (by omega)) (ms_ifT (fun hg => ?_) (fun hg => ?_))
    · refine no N hf hm ?_
      rw [hPv, hg, Bool.and_false]
    refine ms_oR_i mm_f3 (ms_c1_i n_paperAt (n_rd (by omega) (wN.2.2.2.1 o 0 (by omega) (by decide)) (ms_oR_i mm_f3 (ms_c1_i n_paperAt (n_rd (by omega) (wN.2.2.2.1 p 0 hp (by decide)) ?_)))))
    refine ms_ite2 (fun z3 => ?_) (fun z3 => ?_)
    · rw [ms_nle (by omega) (by omega)] at z3
      refine no N hf hm ?_
      rw [hPv]
      unfold ab_op
      rw [decide_eq_false (by omega)]
      rfl
    rw [ms_nle (by omega) (by omega)] at z3
    refine ms_c1_i (n_sharesP wN (by omega) (by omega)) (ms_ifT (fun hg2 => ?_) (fun hg2 => ?_))
    · refine no N hf hm ?_
      rw [hPv]
      unfold ab_op
      rw [hg2, Bool.false_and, Bool.and_false]
      rfl
    refine ms_c0_i (n_setPapers wN hp (by omega)) ?_
    have wP := wN.fr (mP_fr (A := A) (M := N) (p := p) (o := o)) rfl
    refine my_q1 (n_find (x := 4) (df := 0) wP ev_P mP_25 (by decide) (by decide)) (fun N2 hf2 => ?_)
    have hfP : md_fr gS M N2 := mr_t hf (mr_t (mr_s mP_fr zT_S) (mr_s hf2 zS_gS))
    have keep : MSo A p ((List.range o).filter P) N2 := by
      have f2 : md_fr zT N N2 := mr_t mP_fr (mr_s hf2 zS_T)
      refine ⟨?_, hm.2.1, fun s hs => ?_⟩
      · rw [(f2 30 rfl).1]; exact hm.1
      · rw [(f2 31 rfl).2.2.1, (f2 32 rfl).2.2.1]; exact hm.2.2 s hs
    have hbar : (nI (fd_r 4 0 (tx_last 4 (en_P A p o) (ab_x A))) = 0) ↔ ab_bars A p o = false := by
      unfold ab_bars
      cases tx_last 4 (en_P A p o) (ab_x A) with
      | none => exact ⟨fun _ => rfl, fun _ => rfl⟩
      | some v => exact ⟨fun z => absurd (show nI 1 = 0 from z) (by decide), fun z => absurd z (by simp)⟩
    refine ms_ite2 (fun z4 => ?_) (fun z4 => ?_)
    · have hb := hbar.mp z4
      have hPo : P o = true := by
        rw [hPv, hg]
        unfold ab_op
        rw [decide_eq_true (by omega), hg2, hb]
        rfl
      simp only [ms_oR_e, ms_oI_e, ms_oL_e, mm_f30, mm_p30, mm_f31, mm_r31, mm_w31, mm_f32, mm_r32, mm_w32]
      rw [keep.1]
      refine ⟨ms_in (by omega) (by decide), ?_⟩
      rw [ms_nc (by omega), md_i_ua, keep.1]
      have wQ : MX A (md_ua N2 31 ((List.range o).filter P).length (nI o)) := w.fr (mr_a hfP rfl) rfl
      have h25 : ∀ j, j < 17 → md_q (md_ua N2 31 ((List.range o).filter P).length (nI o)) 25 j = z_env (en_P A p o) j := fun j hj => by
        show md_q N2 25 j = _
        rw [(hf2 25 rfl).2.2.2]
        exact mP_25 j hj
      refine my_q1 (n_find (x := 2) (df := 3) wQ ev_P h25 (by decide) (by decide)) (fun N3 hf3 => ?_)
      rw [fd_tells (by decide)]
      simp only [ms_oR_e, ms_oI_e, ms_oL_e, mm_f30, mm_p30, mm_f31, mm_r31, mm_w31, mm_f32, mm_r32, mm_w32]
      have e30 : md_i N3 30 = nI ((List.range o).filter P).length := by
        rw [(hf3 30 rfl).1, md_i_ua]; exact keep.1
      refine ⟨ms_in (by omega) (by decide), ?_⟩
      rw [ms_nc (by omega), md_i_ua, e30, show nI ((List.range o).filter P).length + 1 = nI (((List.range o).filter P).length + 1) from ms_p1 1]
      refine ih (o + 1) _ (by omega) (mr_i (mr_a (mr_t (mr_a hfP rfl) (mr_s hf3 zS_gS)) rfl) rfl) ?_
      have hfs : ((List.range (o + 1)).filter P).take 9 = (List.range o).filter P ++ [o] := by
        rw [filt_s, hPo, if_pos rfl, List.take_of_length_le (by rw [List.length_append, List.length_singleton]; omega)]
      rw [hfs]
      have hlen : ((List.range o).filter P ++ [o]).length = ((List.range o).filter P).length + 1 := by rw [List.length_append, List.length_singleton]
      refine ⟨by rw [md_i_at, hlen], by omega, fun s hs => ?_⟩
      rw [hlen] at hs
      show md_a (md_ua N3 32 ((List.range o).filter P).length (nI (tells A 2 3 (en_P A p o)))) 31 s = _ ∧ md_a (md_ua N3 32 ((List.range o).filter P).length (nI (tells A 2 3 (en_P A p o)))) 32 s = _
      rw [md_a_ua, md_a_ua, if_neg (fun z => by omega), (hf3 31 rfl).2.2.1, (hf3 32 rfl).2.2.1, md_a_ua, md_a_ua, if_neg (c := (32 = 31 ∧ _)) (fun z => by omega)]
      unfold q_op
      by_cases hsl : s = ((List.range o).filter P).length
      · rw [if_pos ⟨rfl, hsl⟩, if_pos ⟨rfl, hsl⟩, hsl, List.getD_eq_getElem?_getD, List.getElem?_append_right (Nat.le_refl _), Nat.sub_self]
        exact ⟨rfl, rfl⟩
      · rw [if_neg (fun z => hsl z.2), if_neg (fun z => hsl z.2)]
        obtain ⟨k1, k2⟩ := keep.2.2 s (by omega)
        unfold q_op at k2
        rw [List.getD_eq_getElem?_getD] at k1 k2 ⊢
        rw [List.getElem?_append_left (by omega)]
        exact ⟨k1, k2⟩
    · refine no N2 hfP keep ?_
      have hb : ab_bars A p o = true := by
        cases hb : ab_bars A p o with
        | true => rfl
        | false => exact absurd (hbar.mpr hb) z4
      rw [hPv]
      unfold ab_op
      rw [hb]
      simp
end Mda
