/-! THE CLASS'S LEASTS: sources; written by wip/whole/mdl.py from lea.txt -/
def bits (P : Nat → Bool) : Nat → Nat
  | 0 => 0
  | n + 1 => if P n then bits P n ||| 2 ^ n else bits P n
def sbt (P : Nat → Bool) : Nat → Nat
  | 0 => 0
  | n + 1 => if P n = true ∧ ones (sbt P n) 16 < 9 then sbt P n ||| 2 ^ n else sbt P n
section Lbt
variable {P : Nat → Bool} {x n k m : Nat}
theorem bits_s : bits P (n + 1) = if P n then bits P n ||| 2 ^ n else bits P n := rfl
theorem bits_lt : bits P n < 2 ^ n := by
  induction n with
  | zero => exact Nat.one_pos
  | succ n ih =>
    have h1 : bits P n < 2 ^ (n + 1) := Nat.lt_trans ih (Nat.pow_lt_pow_right (by decide) (Nat.lt_succ_self n))
    unfold bits
    split
    · exact Nat.or_lt_two_pow h1 (Nat.pow_lt_pow_right (by decide) (Nat.lt_succ_self n))
    · exact h1
theorem or_pow_bit : (x ||| 2 ^ n).testBit k = (x.testBit k || decide (n = k)) := by
  rw [Nat.testBit_or, Nat.testBit_two_pow]
theorem bits_tb : (bits P n).testBit k = (decide (k < n) && P k) := by
  induction n with
  | zero =>
    show (0 : Nat).testBit k = _
    rw [Nat.zero_testBit, decide_eq_false (Nat.not_lt_zero k)]
    rfl
  | succ n ih =>
    unfold bits
    by_cases hP : P n = true
    · rw [if_pos hP, or_pow_bit, ih]
      by_cases hk : n = k
      · subst hk
        rw [decide_eq_true rfl, decide_eq_true (Nat.lt_succ_self n), hP, Bool.or_true]
        rfl
      · rw [decide_eq_false hk, Bool.or_false, decide_eq_decide.mpr (show k < n ↔ k < n + 1 by omega)]
    · rw [if_neg hP, ih]
      by_cases hk : n = k
      · subst hk
        rw [show P n = false by simpa using hP, Bool.and_false, Bool.and_false]
      · rw [decide_eq_decide.mpr (show k < n ↔ k < n + 1 by omega)]
theorem ones_or (h : x.testBit n = false) : ∀ m : Nat, ones (x ||| 2 ^ n) m = ones x m + (if n < m then 1 else 0)
  | 0 => rfl
  | m + 1 => by
    have ih := ones_or h m
    unfold ones
    rw [ih, or_pow_bit]
    by_cases hm : n = m
    · subst hm
      rw [h, decide_eq_true rfl, if_neg (Nat.lt_irrefl n), if_pos (Nat.lt_succ_self n)]
      rfl
    · rw [decide_eq_false hm, Bool.or_false]
      by_cases h1 : n < m
      · rw [if_pos h1, if_pos (show n < m + 1 by omega)]
        omega
      · rw [if_neg h1, if_neg (show ¬ n < m + 1 by omega)]
        omega
theorem sbt_ok : ∀ n : Nat, n ≤ 16 → sbt P n < 2 ^ n ∧ (List.range n).filter (fun o => (sbt P n).testBit o) = ((List.range n).filter P).take 9 ∧ ones (sbt P n) 16 = (((List.range n).filter P).take 9).length
  | 0, _ => ⟨Nat.one_pos, rfl, show ones 0 16 = 0 by decide⟩
  | n + 1, hn => by
    obtain ⟨i1, i2, i3⟩ := sbt_ok n (by omega)
    have hb : (sbt P n).testBit n = false := tb_lt i1 (Nat.le_refl n)
    have h1 : sbt P n < 2 ^ (n + 1) := Nat.lt_trans i1 (Nat.pow_lt_pow_right (by decide) (Nat.lt_succ_self n))
    unfold sbt
    rw [List.range_succ, List.filter_append, List.filter_append]
    by_cases hP : P n = true
    · have e1 : [n].filter P = [n] := by rw [List.filter_cons, if_pos hP]; rfl
      rw [e1]
      by_cases ho : ones (sbt P n) 16 < 9
      · rw [if_pos ⟨hP, ho⟩]
        rw [i3, List.length_take] at ho
        have hl : ((List.range n).filter P).length < 9 := by omega
        rw [List.take_of_length_le (by omega)] at i2 i3
        rw [List.take_of_length_le (by rw [List.length_append, List.length_singleton]; omega)]
        refine ⟨Nat.or_lt_two_pow h1 (Nat.pow_lt_pow_right (by decide) (Nat.lt_succ_self n)), ?_, ?_⟩
        · have e2 : (List.range n).filter (fun o => (sbt P n ||| 2 ^ n).testBit o) = (List.range n).filter (fun o => (sbt P n).testBit o) := by
            apply List.filter_congr
            intro o ho2
            rw [List.mem_range] at ho2
            rw [or_pow_bit, decide_eq_false (show ¬ n = o by omega), Bool.or_false]
          have e3 : [n].filter (fun o => (sbt P n ||| 2 ^ n).testBit o) = [n] := by
            rw [List.filter_cons, or_pow_bit, decide_eq_true rfl, Bool.or_true]
            rfl
          rw [e2, e3, i2]
        · rw [ones_or hb, if_pos (show n < 16 by omega), i3, List.length_append, List.length_singleton]
      · rw [if_neg (fun z => ho z.2)]
        rw [i3, List.length_take] at ho
        rw [List.take_append_of_le_length (by omega)]
        refine ⟨h1, ?_, i3⟩
        have e3 : [n].filter (fun o => (sbt P n).testBit o) = [] := by
          rw [List.filter_cons, hb]
          rfl
        rw [e3, List.append_nil, i2]
    · rw [if_neg (fun z => hP z.1)]
      have e1 : [n].filter P = [] := by rw [List.filter_cons, if_neg hP]; rfl
      have e3 : [n].filter (fun o => (sbt P n).testBit o) = [] := by
        rw [List.filter_cons, hb]
        rfl
      rw [e1, e3, List.append_nil, List.append_nil]
      exact ⟨h1, i2, i3⟩
theorem sbt_sub : ∀ n : Nat, (sbt P n).testBit k = true → P k = true ∧ k < n
  | 0, h => by rw [show sbt P 0 = 0 from rfl, Nat.zero_testBit] at h; cases h
  | n + 1, h => by
    unfold sbt at h
    split at h
    · rename_i hc
      rw [or_pow_bit, Bool.or_eq_true, decide_eq_true_eq] at h
      rcases h with h | h
      · have := sbt_sub n h
        exact ⟨this.1, by omega⟩
      · rw [← h]
        exact ⟨hc.1, Nat.lt_succ_self n⟩
    · have := sbt_sub n h
      exact ⟨this.1, by omega⟩
end Lbt
/-- a paper's things, as bits -/
def ab_tb (A : ab_T) (p : Nat) : Nat := (ab_l A p).foldl (fun a e => a ||| 2 ^ ab_en A e 1) 0
def ab_sh (A : ab_T) (p o : Nat) : Bool := (ab_l A p).any (fun e => (ab_l A o).any (fun f => decide (ab_en A f 1 = ab_en A e 1)))
/-- it may lift from that paper, whenever it is seen -/
def ab_op (A : ab_T) (p o : Nat) : Bool := decide (ab_pa A o 0 < ab_pa A p 0) && (ab_sh A p o && !ab_bars A p o)
def obits (A : ab_T) (p : Nat) : Nat := bits (ab_op A p) (ab_p A)
def sbits (A : ab_T) (p day : Nat) : Nat := sbt (fun o => ab_op A p o && ab_s A o day) 16
def ab_src (A : ab_T) (p day : Nat) : List Nat := ((List.range 16).filter (fun o => ab_op A p o && ab_s A o day)).take 9
/-- the Leasts' object and its book -/
def LO (L b : Nat) : Prop := (L = 24 ∧ b = 6) ∨ (L = 41 ∧ b = 34)
def fO (L c : Nat) : Bool := fL c || decide (c = L + 1)
section Lea
variable {d b i j k n p o e f u v x y s r c L day : Nat} {X Y Z : cx_T} {t : ms_S} {A : ab_T} {S : List Nat} {K : Int32 → ms_S → Prop}
theorem fold_or_bit : ∀ (l : List Nat) (a : Nat), (l.foldl (fun a e => a ||| 2 ^ ab_en A e 1) a).testBit k = (a.testBit k || l.any (fun e => decide (ab_en A e 1 = k)))
  | [], a => by simp
  | e :: l, a => by
    rw [List.foldl_cons, fold_or_bit l, or_pow_bit, List.any_cons, Bool.or_assoc]
theorem tb_bit : (ab_tb A p).testBit k = (ab_l A p).any (fun e => decide (ab_en A e 1 = k)) := by
  unfold ab_tb
  rw [fold_or_bit, Nat.zero_testBit, Bool.false_or]
theorem fold_or_lt : ∀ (l : List Nat) (a : Nat), (∀ e ∈ l, ab_en A e 1 < 8) → a < 2 ^ 8 → l.foldl (fun a e => a ||| 2 ^ ab_en A e 1) a < 2 ^ 8
  | [], a, _, h => h
  | e :: l, a, hl, h => by
    rw [List.foldl_cons]
    refine fold_or_lt l _ (fun f hf => hl f (List.mem_cons_of_mem _ hf)) (Nat.or_lt_two_pow h ?_)
    exact Nat.pow_lt_pow_right (by decide) (hl e List.mem_cons_self)
theorem ab_l_mem {e : Nat} (h : e ∈ ab_l A p) : e < ab_e A ∧ ab_en A e 0 = p := by
  unfold ab_l at h
  rw [List.mem_filter, List.mem_range, decide_eq_true_eq] at h
  exact h
theorem ab_l_th (w : ab_w A) : ∀ e ∈ ab_l A p, ab_en A e 1 < 8 := fun e he => Nat.lt_of_lt_of_le (w.2.2.2.2.1 e (ab_l_mem he).1).2 w.1.1
theorem tb_256 (w : ab_w A) : ab_tb A p < 2 ^ 8 := fold_or_lt _ _ (ab_l_th w) (by decide)
theorem tb_sh : (ab_tb A o &&& ab_tb A p ≠ 0) ↔ ab_sh A p o = true := by
  constructor
  · intro h
    obtain ⟨i, hi⟩ := Nat.exists_testBit_of_ne_zero h
    rw [Nat.testBit_and, tb_bit, tb_bit, Bool.and_eq_true, List.any_eq_true, List.any_eq_true] at hi
    obtain ⟨⟨f, hf, hf2⟩, e, he, he2⟩ := hi
    unfold ab_sh
    rw [List.any_eq_true]
    refine ⟨e, he, ?_⟩
    rw [List.any_eq_true]
    refine ⟨f, hf, ?_⟩
    rw [decide_eq_true_eq] at hf2 he2 ⊢
    rw [hf2, he2]
  · intro h z
    unfold ab_sh at h
    rw [List.any_eq_true] at h
    obtain ⟨e, he, h⟩ := h
    rw [List.any_eq_true] at h
    obtain ⟨f, hf, h⟩ := h
    rw [decide_eq_true_eq] at h
    have hb : (ab_tb A o &&& ab_tb A p).testBit (ab_en A e 1) = true := by
      rw [Nat.testBit_and, tb_bit, tb_bit, Bool.and_eq_true, List.any_eq_true, List.any_eq_true]
      exact ⟨⟨f, hf, decide_eq_true h⟩, e, he, decide_eq_true rfl⟩
    rw [z, Nat.zero_testBit] at hb
    cases hb
theorem k_thingsIn (h : CX A b X t) (hp : p < ab_p A) : ms_Cl (d + 4) 23 [.ref b, .int (nI p)] (ms_x X t) (some (.int (nI (ab_tb A p)))) (ms_x X t) := by
  have hn := h.w.2.2.2.2.2 p
  refine m_X0_thingsIn (Nat.le_refl _) (Nat.le_refl _) h.bk.rc (b_X0_thingsIn_0 (Q := ms_lf _ _) ?_)
  suffices H : ∀ r k, k + r = (ab_l A p).length → ms_V cd_X0_thingsIn none 1 (ms_Cl (d + 3)) (ms_lf (some (.int (nI (ab_tb A p)))) (ms_x X t)) 4 [(0, .ref b), (1, .int (nI p)), (2, .int (nI (((ab_l A p).take k).foldl (fun a e => a ||| 2 ^ ab_en A e 1) 0))), (3, .int (nI k))] [] (ms_x X t) from H (ab_l A p).length 0 (by omega)
  intro r
  induction r with
  | zero =>
    intro k hk
    refine b_X0_thingsIn_4 (ms_c1_i (k_size h hp) ?_)
    refine ms_yes ((ms_nle (by omega) (by omega)).mpr (by omega)) ⟨?_, rfl⟩
    rw [List.take_of_length_le (by omega)]
    rfl
  | succ r ih =>
    intro k hk
    have hje := q_e_of (A := A) (p := p) (i := k) (by omega)
    obtain ⟨hje1, hje2⟩ := ab_l_lt hje
    have hi8 : ab_en A (q_e A p k) 1 < 8 := Nat.lt_of_lt_of_le (h.w.2.2.2.2.1 _ hje1).2 h.w.1.1
    refine b_X0_thingsIn_4 (ms_c1_i (k_size h hp) ?_)
    refine ms_no (fun z => by rw [ms_nle (by omega) (by omega)] at z; omega) ?_
    refine ms_c1_i (k_entryAt h hp hje) (ms_c1_i (k_thingOf h hje1) ?_)
    have hf : ((ab_l A p).take k).foldl (fun a e => a ||| 2 ^ ab_en A e 1) 0 < 2 ^ 8 := fold_or_lt _ _ (fun e he => ab_l_th h.w e (List.mem_of_mem_take he)) (by decide)
    have hp8 : 2 ^ ab_en A (q_e A p k) 1 < 2 ^ 8 := Nat.pow_lt_pow_right (by decide) hi8
    rw [pw_nI (by omega), or_nI (by omega) (by omega), show nI k + 1 = nI (k + 1) from ms_p1 1]
    have H := ih (k + 1) (by omega)
    rw [take_1 hje, List.foldl_append] at H
    exact H
theorem xL_0 (h : LO L b) : ms_fldR (ms_x X t) L 3 0 = some b := by rcases h with ⟨rfl, rfl⟩ | ⟨rfl, rfl⟩ <;> first | exact xf_24_0 | exact xf_41_0
theorem xL_1 (h : LO L b) : ms_fldR (ms_x X t) L 3 1 = some 12 := by rcases h with ⟨rfl, rfl⟩ | ⟨rfl, rfl⟩ <;> first | exact xf_24_1 | exact xf_41_1
theorem xL_2 (h : LO L b) : ms_fldR (ms_x X t) L 3 2 = some 15 := by rcases h with ⟨rfl, rfl⟩ | ⟨rfl, rfl⟩ <;> first | exact xf_24_2 | exact xf_41_2
theorem xL_3 (h : LO L b) : ms_fldR (ms_x X t) L 3 3 = some (L + 1) := by rcases h with ⟨rfl, rfl⟩ | ⟨rfl, rfl⟩ <;> first | exact xf_24_3 | exact xf_41_3
theorem xL_4 (h : LO L b) : ms_fldR (ms_x X t) L 3 4 = some (L + 2) := by rcases h with ⟨rfl, rfl⟩ | ⟨rfl, rfl⟩ <;> first | exact xf_24_4 | exact xf_41_4
theorem xL_5 (h : LO L b) : ms_fldR (ms_x X t) L 3 5 = some (L + 3) := by rcases h with ⟨rfl, rfl⟩ | ⟨rfl, rfl⟩ <;> first | exact xf_24_5 | exact xf_41_5
theorem xL_6 (h : LO L b) : ms_fldR (ms_x X t) L 3 6 = some (L + 4) := by rcases h with ⟨rfl, rfl⟩ | ⟨rfl, rfl⟩ <;> first | exact xf_24_6 | exact xf_41_6
theorem xL_7 (h : LO L b) : ms_fldR (ms_x X t) L 3 7 = some (L + 5) := by rcases h with ⟨rfl, rfl⟩ | ⟨rfl, rfl⟩ <;> first | exact xf_24_7 | exact xf_41_7
theorem xL_8 (h : LO L b) : ms_fldR (ms_x X t) L 3 8 = some (L + 6) := by rcases h with ⟨rfl, rfl⟩ | ⟨rfl, rfl⟩ <;> first | exact xf_24_8 | exact xf_41_8
theorem xL_9 (h : LO L b) : ms_fldR (ms_x X t) L 3 9 = some (L + 7) := by rcases h with ⟨rfl, rfl⟩ | ⟨rfl, rfl⟩ <;> first | exact xf_24_9 | exact xf_41_9
theorem xL_10 (h : LO L b) : ms_fldR (ms_x X t) L 3 10 = some (L + 8) := by rcases h with ⟨rfl, rfl⟩ | ⟨rfl, rfl⟩ <;> first | exact xf_24_10 | exact xf_41_10
theorem xL_rc (h : LO L b) : ∃ fs : List Value, (ms_x X t)[L]? = some (.inr (3, fs)) := by rcases h with ⟨rfl, rfl⟩ | ⟨rfl, rfl⟩ <;> first | exact ⟨_, xo_24⟩ | exact ⟨_, xo_41⟩
theorem cA_i1 (h : LO L b) : cA (L + 1) 16 := by rcases h with ⟨rfl, rfl⟩ | ⟨rfl, rfl⟩ <;> exact ⟨fun _ => rfl, fun _ _ _ => rfl, by decide⟩
theorem cA_i2 (h : LO L b) : cA (L + 2) 16 := by rcases h with ⟨rfl, rfl⟩ | ⟨rfl, rfl⟩ <;> exact ⟨fun _ => rfl, fun _ _ _ => rfl, by decide⟩
theorem cA_i3 (h : LO L b) : cA (L + 3) 16 := by rcases h with ⟨rfl, rfl⟩ | ⟨rfl, rfl⟩ <;> exact ⟨fun _ => rfl, fun _ _ _ => rfl, by decide⟩
theorem cA_i4 (h : LO L b) : cA (L + 4) 16 := by rcases h with ⟨rfl, rfl⟩ | ⟨rfl, rfl⟩ <;> exact ⟨fun _ => rfl, fun _ _ _ => rfl, by decide⟩
theorem cA_i5 (h : LO L b) : cA (L + 5) 16 := by rcases h with ⟨rfl, rfl⟩ | ⟨rfl, rfl⟩ <;> exact ⟨fun _ => rfl, fun _ _ _ => rfl, by decide⟩
theorem cA_i6 (h : LO L b) : cA (L + 6) 120 := by rcases h with ⟨rfl, rfl⟩ | ⟨rfl, rfl⟩ <;> exact ⟨fun _ => rfl, fun _ _ _ => rfl, by decide⟩
theorem cA_i7 (h : LO L b) : cA (L + 7) 208 := by rcases h with ⟨rfl, rfl⟩ | ⟨rfl, rfl⟩ <;> exact ⟨fun _ => rfl, fun _ _ _ => rfl, by decide⟩
theorem cA_i8 (h : LO L b) : cA (L + 8) 121 := by rcases h with ⟨rfl, rfl⟩ | ⟨rfl, rfl⟩ <;> exact ⟨fun _ => rfl, fun _ _ _ => rfl, by decide⟩
theorem LO.cx (h : CX A b X t) (hb : LO L b) : 24 ≤ L ∧ L ≤ 41 ∧ (L = 24 ∨ L = 41) := by rcases hb with ⟨rfl, rfl⟩ | ⟨rfl, rfl⟩ <;> omega
theorem LO.is (hb : LO L b) : L = 24 ∨ L = 41 := by rcases hb with ⟨rfl, rfl⟩ | ⟨rfl, rfl⟩ <;> omega
theorem k_pc (h : CX A b X t) : ms_fldI (ms_x X t) b 0 6 = some (nI (ab_p A)) := by rw [← h.2.2.1.1.2.1]; exact ms_fldI_of h.bk.1 rfl
theorem k_ec (h : CX A b X t) : ms_fldI (ms_x X t) b 0 7 = some (nI (ab_e A)) := by rw [← h.2.2.1.1.2.2.1]; exact ms_fldI_of h.bk.1 rfl
theorem k_tc (h : CX A b X t) : ms_fldI (ms_x X t) b 0 5 = some (nI (ab_t A)) := by rw [← h.2.2.1.1.1]; exact ms_fldI_of h.bk.1 rfl
theorem k_openTo (h : CX A b X t) (hL : LO L b) (hp : p < ab_p A) : ms_H' (d + 5) 53 [.ref L, .int (nI p)] (ms_x X t) (fQ fL X t (nI (obits A p))) := by
  have hw := h.w.1.2.1
  refine mx_m (fun a b c => m_X3_openTo a b (xL_rc hL) c) fQ_l (b_X3_openTo_0 (ms_oR_i (xL_0 hL) ?_))
  refine ms_c1_i (k_thingsIn h hp) (ms_oR_i (xL_0 hL) (ms_c1_i (k_ofPaper h hp (j := 0) (by decide)) ?_))
  have hpa : ∀ q, ab_pa A q 0 < 2 ^ 31 := fun q => Nat.lt_trans (h.w.2.2.1 q 0) (by decide)
  have htb : ∀ q, ab_tb A q < 2 ^ 8 := fun q => tb_256 h.w
  suffices H : ∀ r o Y, o + r = ab_p A → cx_fr fL X Y → ms_V cd_X3_openTo none 1 (ms_Cl (d + 4)) (fQ fL X t (nI (obits A p))) 25 [(0, .ref L), (1, .int (nI p)), (2, .int (nI (ab_tb A p))), (3, .int (nI (ab_pa A p 0))), (4, .int (nI (bits (ab_op A p) o))), (5, .int (nI o))] [] (ms_x Y t) from H (ab_p A) 0 X (by omega) fr_0
  intro r
  induction r with
  | zero =>
    intro o Y ho hf
    have hY := h.fr hf
    refine b_X3_openTo_25 (ms_oR_i (xL_0 hL) (ms_oI_i (k_pc hY) ?_))
    refine ms_yes ((ms_nle (by omega) (by omega)).mpr (by omega)) ⟨Y, hf, rfl, ?_⟩
    rw [show o = ab_p A by omega]
    rfl
  | succ r ih =>
    intro o Y ho hf
    have hY := h.fr hf
    have hb16 : bits (ab_op A p) o < 2 ^ 16 := Nat.lt_of_lt_of_le bits_lt (Nat.pow_le_pow_right (by decide) (by omega))
    have hp16 : 2 ^ o < 2 ^ 16 := Nat.pow_lt_pow_right (by decide) (by omega)
    refine b_X3_openTo_25 (ms_oR_i (xL_0 hL) (ms_oI_i (k_pc hY) ?_))
    refine ms_no (fun z => by rw [ms_nle (by omega) (by omega)] at z; omega) (ms_oR_i (xL_0 hL) ?_)
    refine ms_c1_i (k_ofPaper hY (i := o) (j := 0) (by omega) (by decide)) ?_
    rw [show nI o + 1 = nI (o + 1) from ms_p1 1]
    have no : ∀ Z, cx_fr fL X Z → ab_op A p o = false → ms_V cd_X3_openTo none 1 (ms_Cl (d + 4)) (fQ fL X t (nI (obits A p))) 25 [(0, .ref L), (1, .int (nI p)), (2, .int (nI (ab_tb A p))), (3, .int (nI (ab_pa A p 0))), (4, .int (nI (bits (ab_op A p) o))), (5, .int (nI (o + 1)))] [] (ms_x Z t) := by
      intro Z fz hno
      have H := ih (o + 1) Z (by omega) fz
      rw [show bits (ab_op A p) (o + 1) = bits (ab_op A p) o by rw [bits_s, hno]; rfl] at H
      exact H
    refine ms_ite2 (fun z => ?_) (fun z => ?_)
    · rw [ms_nle (hpa p) (hpa o)] at z
      refine ms_yes rfl (no Y hf ?_)
      unfold ab_op
      rw [decide_eq_false (by omega)]
      rfl
    · rw [ms_nle (hpa p) (hpa o)] at z
      refine ms_no (by decide) (ms_oR_i (xL_0 hL) (ms_c1_i (k_thingsIn hY (p := o) (by omega)) ?_))
      have t1 := htb o
      have t2 := htb p
      have t3 : ab_tb A o &&& ab_tb A p ≤ ab_tb A o := Nat.and_le_left
      rw [an_nI (by omega) (by omega)]
      refine ms_ite2 (fun z2 => ?_) (fun z2 => ?_)
      · rw [show (0 : Int32) = nI 0 from rfl, ms_nI_eq (by omega) (by decide)] at z2
        refine no Y hf ?_
        have : ab_sh A p o = false := by
          cases hs : ab_sh A p o with
          | false => rfl
          | true => exact absurd z2 (tb_sh.mpr hs)
        unfold ab_op
        rw [this, Bool.false_and, Bool.and_false]
      · rw [show (0 : Int32) = nI 0 from rfl, ms_nI_eq (by omega) (by decide)] at z2
        have hs := tb_sh.mp z2
        refine ms_oR_i (xL_1 hL) (ms_oR_i (xL_0 hL) ?_)
        refine mx_q1 (k_bars hY hp (o := o) (by omega)) (fun Z hz => ?_)
        have fz := fr_t hf hz
        refine ms_ifT (fun hg => ?_) (fun hg => ?_)
        · rw [pw_nI (by omega), or_nI (by omega) (by omega)]
          have H := ih (o + 1) Z (by omega) fz
          rw [show bits (ab_op A p) (o + 1) = bits (ab_op A p) o ||| 2 ^ o by
            rw [bits_s, show ab_op A p o = true by unfold ab_op; rw [decide_eq_true (by omega), hs, hg]; rfl]
            rfl] at H
          exact H
        · refine no Z fz ?_
          unfold ab_op
          rw [hg]
          simp
theorem fL_O : ∀ c, fO L c = false → fL c = false := fun c hc => (Bool.or_eq_false_iff.mp hc).1
theorem k_src39 (h : CX A b X t) (hL : LO L b) (hp : p < ab_p A) (hd : day < 2 ^ 31) (ho : cx_a X (L + 1) p = nI (obits A p)) : ∀ r o, o + r = 16 → ms_V cd_X3_sourcesOf none 1 (ms_Cl (d + 3)) (ms_lf (some (.int (nI (sbits A p day)))) (ms_x X t)) 39 [(0, .ref L), (1, .int (nI p)), (2, .int (nI day)), (3, .int (nI (sbt (fun o => ab_op A p o && ab_s A o day) o))), (4, .int (nI o))] [] (ms_x X t) := by
  have hw := h.w.1.2.1
  have hob : obits A p < 2 ^ 16 := Nat.lt_of_lt_of_le bits_lt (Nat.pow_le_pow_right (by decide) (by omega))
  intro r
  induction r with
  | zero =>
    intro o hor
    refine b_X3_sourcesOf_39 (ms_yes ?_ ⟨?_, rfl⟩)
    · rw [show o = 16 by omega]; decide
    · rw [show o = 16 by omega]; rfl
  | succ r ih =>
    intro o hor
    have hs16 : sbt (fun o => ab_op A p o && ab_s A o day) o < 2 ^ 16 := Nat.lt_of_lt_of_le (sbt_ok o (by omega)).1 (Nat.pow_le_pow_right (by decide) (by omega))
    have hp16 : 2 ^ o < 2 ^ 16 := Nat.pow_lt_pow_right (by decide) (by omega)
    have ho9 : ones (sbt (fun o => ab_op A p o && ab_s A o day) o) 16 ≤ 16 := ones_le _ 16
    refine b_X3_sourcesOf_39 (ms_no ?_ (ms_oR_i (xL_3 hL) ?_))
    · rw [show (16 : Int32) = nI 16 from rfl, ms_nle (by decide) (by omega)]
      omega
    rw [cA_r (cA_i1 hL)]
    refine ⟨ms_in (by omega) (by decide), ?_⟩
    rw [ms_nc (by omega), ho, show nI o + 1 = nI (o + 1) from ms_p1 1]
    have no : ¬ ((ab_op A p o && ab_s A o day) = true ∧ ones (sbt (fun o => ab_op A p o && ab_s A o day) o) 16 < 9) → ms_V cd_X3_sourcesOf none 1 (ms_Cl (d + 3)) (ms_lf (some (.int (nI (sbits A p day)))) (ms_x X t)) 39 [(0, .ref L), (1, .int (nI p)), (2, .int (nI day)), (3, .int (nI (sbt (fun o => ab_op A p o && ab_s A o day) o))), (4, .int (nI (o + 1)))] [] (ms_x X t) := by
      intro hno
      have H := ih (o + 1) (by omega)
      rw [show sbt (fun o => ab_op A p o && ab_s A o day) (o + 1) = sbt (fun o => ab_op A p o && ab_s A o day) o by
        rw [sbt]
        exact if_neg hno] at H
      exact H
    refine ms_ite2 (fun z => ?_) (fun z => ?_)
    · rw [bit_1 (by omega) (by omega)] at z
      unfold obits at z
      rw [bits_tb, Bool.and_eq_true, decide_eq_true_eq] at z
      refine ms_oR_i (xL_0 hL) (ms_c1_i (k_isSeen h (i := o) (by omega) hd) (ms_ifT (fun hg => ?_) (fun hg => ?_)))
      · refine ms_yes rfl (no (fun q => ?_))
        rw [hg, Bool.and_false] at q
        cases q.1
      · refine ms_no (by decide) (ms_c1_i (c_bitCount (m := 16) (by decide) hs16) (ms_ite2 (fun z2 => ?_) (fun z2 => ?_)))
        · rw [show (9 : Int32) = nI 9 from rfl, ms_nle (by decide) (by omega)] at z2
          exact no (fun q => by omega)
        · rw [show (9 : Int32) = nI 9 from rfl, ms_nle (by decide) (by omega)] at z2
          rw [pw_nI (by omega), or_nI (by omega) (by omega)]
          have H := ih (o + 1) (by omega)
          rw [show sbt (fun o => ab_op A p o && ab_s A o day) (o + 1) = sbt (fun o => ab_op A p o && ab_s A o day) o ||| 2 ^ o by
            rw [sbt]
            exact if_pos ⟨by rw [z.2, hg]; rfl, by omega⟩] at H
          exact H
    · rw [bit_1 (by omega) (by omega)] at z
      unfold obits at z
      refine ms_yes rfl (no (fun q => z ?_))
      have q1 := q.1
      rw [Bool.and_eq_true] at q1
      have hlt : o < ab_p A := by
        have := q1.2
        unfold ab_s at this
        rw [Bool.and_eq_true, decide_eq_true_eq] at this
        exact this.1
      rw [bits_tb, decide_eq_true hlt, q1.1]
      rfl
theorem k_sourcesOf (h : CX A b X t) (hL : LO L b) (hp : p < ab_p A) (hd : day < 2 ^ 31) (ho : cx_a X (L + 1) p = -1 ∨ cx_a X (L + 1) p = nI (obits A p)) : ms_H' (d + 6) 52 [.ref L, .int (nI p), .int (nI day)] (ms_x X t) (fV (fO L) X t (fun v Y => v = nI (sbits A p day) ∧ cx_a Y (L + 1) p = nI (obits A p) ∧ ∀ i, i ≠ p → cx_a Y (L + 1) i = cx_a X (L + 1) i)) := by
  have hw := h.w.1.2.1
  have hob : obits A p < 2 ^ 16 := Nat.lt_of_lt_of_le bits_lt (Nat.pow_le_pow_right (by decide) (by omega))
  refine mx_m (fun a b c => m_X3_sourcesOf a b (xL_rc hL) c) fV_l (b_X3_sourcesOf_0 (ms_oR_i (xL_0 hL) ?_))
  refine ms_c1_i (k_hasPaper h (by omega)) ?_
  rw [decide_eq_true hp]
  refine ms_no (by decide) (ms_oR_i (xL_3 hL) ?_)
  rw [cA_r (cA_i1 hL)]
  refine ⟨ms_in (by omega) (by decide), ?_⟩
  rw [ms_nc (by omega)]
  refine ms_ite2 (fun z => ?_) (fun z => ?_)
  · refine ms_oR_i (xL_3 hL) (mx_q1 (k_openTo h hL hp) (fun Z hz => ?_))
    rw [cA_w (cA_i1 hL)]
    refine ⟨ms_in (by omega) (by decide), ?_⟩
    rw [ms_nc (by omega)]
    have f1 : fO L (L + 1) = true := by unfold fO; rw [decide_eq_true rfl, Bool.or_true]
    have f2 : fL (L + 1) = false := decide_eq_false (by have := hL.is; omega)
    have fz : cx_fr (fO L) X (cx_ua Z (L + 1) p (nI (obits A p))) := fr_a (fr_s hz fL_O) f1
    refine ms_V_mono (k_src39 (d := d + 2) (h.fr fz) hL hp hd (by rw [cx_a_ua, if_pos ⟨rfl, rfl⟩]) 16 0 rfl) (fun r g' hq => ?_)
    refine ⟨_, _, fz, hq.2, hq.1, rfl, by rw [cx_a_ua, if_pos ⟨rfl, rfl⟩], fun i hi => ?_⟩
    rw [cx_a_ua, if_neg (fun q => hi q.2), (hz.1 _ f2).2]
  · have ho2 := ho.resolve_left z
    refine ms_V_mono (k_src39 (d := d + 2) h hL hp hd ho2 16 0 rfl) (fun r g' hq => ?_)
    exact ⟨X, _, fr_0, hq.2, hq.1, rfl, ho2, fun i hi => rfl⟩
end Lea
