/-! THE CLASS'S CHOOSER: load; written by wip/whole/mdl.py from chs.txt -/
/-- the cheapest way to lift an entry from a paper, and from which entry -/
def lf_st (A : ab_T) (e : Nat) (acc : Nat × Nat) (f : Nat) : Nat × Nat := if ab_en A f 1 = ab_en A e 1 then (if ab_slips A f e < acc.1 then (ab_slips A f e, f) else acc) else acc
def ab_lf (A : ab_T) (e o : Nat) : Nat × Nat := (ab_l A o).foldl (lf_st A e) (NW, 0)
/-- a set's papers -/
def sl (x : Nat) : List Nat := (List.range 16).filter (fun o => x.testBit o)
def q_e (A : ab_T) (p i : Nat) : Nat := (ab_l A p).getD i 0
def q_op (A : ab_T) (p : Nat) (S : List Nat) (s : Nat) : Nat := ab_open A p (S.getD s 0)
def q_lk (A : ab_T) (p i : Nat) : Nat := ab_look A (q_e A p i)
def q_lf (A : ab_T) (p : Nat) (S : List Nat) (i s : Nat) : Nat := (ab_lf A (q_e A p i) (S.getD s 0)).1
/-- what stands in the chooser of the lifts -/
def LT (X : cx_T) (n : Nat) (T : Nat → Nat → Nat × Nat) : Prop := ∀ s j, s < 9 → j < n → cx_a X 19 (s * 12 + j) = nI (T s j).1 ∧ (T s j).1 ≤ NW ∧ ((T s j).1 ≠ NW → cx_a X 20 (s * 12 + j) = nI (T s j).2)
def LD (A : ab_T) (b p : Nat) (X : cx_T) (k : Nat) : Prop := cx_o X = some b ∧ cx_i X 15 2 = nI p ∧ cx_i X 15 3 = nI (ab_l A p).length ∧ ∀ i, i < k → cx_a X 17 i = nI (q_lk A p i) ∧ cx_a X 18 i = ms_bi (ab_gh A (ab_en A (q_e A p i) 1))
/-- the chooser is loaded -/
def CK (A : ab_T) (b p : Nat) (S : List Nat) (X : cx_T) : Prop := LD A b p X (ab_l A p).length ∧ cx_i X 15 4 = nI S.length ∧ S.length ≤ 9 ∧ (∀ s, s < S.length → cx_a X 16 s = nI (q_op A p S s)) ∧ ∀ s j, s < S.length → j < (ab_l A p).length → cx_a X 19 (s * 12 + j) = nI (q_lf A p S j s) ∧ (q_lf A p S j s ≠ NW → cx_a X 20 (s * 12 + j) = nI (ab_lf A (q_e A p j) (S.getD s 0)).2)
section Chs
variable {d b i j k n p o e f u v x s : Nat} {X Y Z : cx_T} {t : ms_S} {A : ab_T} {S : List Nat} {T : Nat → Nat → Nat × Nat}
theorem xp_15_1 {K : ms_S → Prop} : ms_wF (ms_x X t) 15 1 1 (.ref b) K = K (ms_x (cx_uo X (some b)) t) := by
  unfold ms_wF ms_put; rw [ms_fld_of xo_15 (v := va_rf (cx_o X)) rfl, xo_15]
  show (True ∧ K ((ms_x X t).set 15 _)) = _
  rw [true_and, cx_set (X := X) (.inr (1, [.ref 12, va_rf (cx_o X), .int (cx_i X 15 2), .int (cx_i X 15 3), .int (cx_i X 15 4), .ref 16, .ref 17, .ref 18, .ref 19, .ref 20, .ref 21, .ref 22, .ref 23, .int (cx_i X 15 13), .int (cx_i X 15 14)].set 1 (.ref b))) (cx_uo X (some b)) rfl (Nat.le_of_ble_eq_true rfl)]
theorem xl_19 {K : Int32 → Prop} : ms_aL (ms_x X t) 19 K = K (nI 108) := by
  refine propext ⟨fun hh => ?_, fun hh => ms_aL_i (cx_get (v := .inl (0, 108, .inl (cx_a X 19))) rfl) rfl hh⟩
  unfold ms_aL ms_arr at hh
  rw [cx_get (v := .inl (0, 108, .inl (cx_a X 19))) rfl] at hh
  exact hh
theorem xl_21 {K : Int32 → Prop} : ms_aL (ms_x X t) 21 K = K (nI 120) := by
  refine propext ⟨fun hh => ?_, fun hh => ms_aL_i (cx_get (v := .inl (0, 120, .inl (cx_a X 21))) rfl) rfl hh⟩
  unfold ms_aL ms_arr at hh
  rw [cx_get (v := .inl (0, 120, .inl (cx_a X 21))) rfl] at hh
  exact hh
theorem q_e_of (h : i < (ab_l A p).length) : (ab_l A p)[i]? = some (q_e A p i) := by
  unfold q_e
  rw [List.getElem?_eq_getElem h, List.getD_eq_getElem?_getD, List.getElem?_eq_getElem h]
  rfl
theorem q_e_lt (h : i < (ab_l A p).length) : q_e A p i < ab_e A ∧ ab_en A (q_e A p i) 0 = p := ab_l_lt (q_e_of h)
theorem lf_st_le {acc : Nat × Nat} (h : acc.1 ≤ NW) : (lf_st A e acc f).1 ≤ NW := by
  unfold lf_st
  split
  · split
    · have := ab_slips_le (A := A) (a := f) (e := e)
      unfold NW
      show ab_slips A f e ≤ _
      omega
    · exact h
  · exact h
theorem lf_fold_le : ∀ (l : List Nat) (acc : Nat × Nat), acc.1 ≤ NW → (l.foldl (lf_st A e) acc).1 ≤ NW
  | [], _, h => h
  | f :: l, acc, h => by
    rw [List.foldl_cons]
    exact lf_fold_le l _ (lf_st_le h)
theorem ab_lf_le : (ab_lf A e o).1 ≤ NW := lf_fold_le _ _ (Nat.le_refl _)
theorem k_offer {c : Nat} (hs : s < 9) (hj : j < n) (hn : n ≤ 12) (hT : LT X n T) (hc : c < 2 ^ 31) : ms_Cl (d + 1) 26 [.ref 15, .int (nI (s * 12 + j)), .int (nI f), .int (nI c)] (ms_x X t) none (ms_x (if c < (T s j).1 then cx_ua (cx_ua X 19 (s * 12 + j) (nI c)) 20 (s * 12 + j) (nI f) else X) t) := by
  obtain ⟨h1, h2, h3⟩ := hT s j hs hj
  unfold NW at h2
  refine m_X1_offer ms_x_l ms_x_t ⟨_, xo_15⟩ (b_X1_offer_0 (Q := ms_lf _ _) ?_)
  refine ms_no (Int32.not_lt.mpr (ms_nI_0 (by omega))) ?_
  simp only [xf_15_8, xf_15_9, ms_oR_e, xr_19, xl_19]
  refine ms_no (fun z => by rw [ms_nle (by decide) (by omega)] at z; omega) ?_
  refine ⟨ms_in (by omega) (by decide), ?_⟩
  rw [ms_nc (by omega), h1]
  by_cases hcc : c < (T s j).1
  · rw [if_pos hcc]
    refine ms_no (fun z => by rw [ms_nle (by omega) hc] at z; omega) ?_
    simp only [xw_19, xf_15_9, ms_oR_e, xw_20]
    refine ⟨ms_in (by omega) (by decide), ms_in (by omega) (by decide), ?_⟩
    rw [ms_nc (by omega)]
    exact ⟨rfl, rfl⟩
  · rw [if_neg hcc]
    exact ms_yes ((ms_nle (by omega) hc).mpr (by omega)) ⟨rfl, rfl⟩
def upT (T : Nat → Nat → Nat × Nat) (s j : Nat) (v : Nat × Nat) : Nat → Nat → Nat × Nat := fun a c => if a = s ∧ c = j then v else T a c
theorem LT_up {c : Nat} (hs : s < 9) (hj : j < n) (hn : n ≤ 12) (hT : LT X n T) (hc : c < NW) : LT (if c < (T s j).1 then cx_ua (cx_ua X 19 (s * 12 + j) (nI c)) 20 (s * 12 + j) (nI f) else X) n (upT T s j (if c < (T s j).1 then (c, f) else T s j)) := by
  by_cases hcc : c < (T s j).1
  · rw [if_pos hcc, if_pos hcc]
    intro a g ha hg
    have hT2 := hT a g ha hg
    unfold upT
    simp only [cx_a_ua]
    by_cases he : a = s ∧ g = j
    · rw [if_pos he, if_neg (fun z => by omega), if_pos ⟨trivial, by rw [he.1, he.2]⟩, if_pos ⟨trivial, by rw [he.1, he.2]⟩]
      exact ⟨rfl, Nat.le_of_lt hc, fun _ => rfl⟩
    · have hne : ¬ (a * 12 + g = s * 12 + j) := fun z => he ⟨by omega, by omega⟩
      rw [if_neg he, if_neg (fun z => by omega), if_neg (fun z => hne z.2), if_neg (fun z => hne z.2), if_neg (fun z => by omega)]
      exact hT2
  · rw [if_neg hcc, if_neg hcc]
    intro a g ha hg
    unfold upT
    by_cases he : a = s ∧ g = j
    · rw [if_pos he]
      have := hT a g ha hg
      rw [he.1, he.2] at this ⊢
      exact this
    · rw [if_neg he]
      exact hT a g ha hg
theorem LT_eq {T2 : Nat → Nat → Nat × Nat} (hT : LT X n T) (h : ∀ s j, s < 9 → j < n → T2 s j = T s j) : LT X n T2 := by
  intro s j hs hj
  rw [h s j hs hj]
  exact hT s j hs hj
theorem LT_fr (hT : LT X n T) (h : cx_fr fL X Y) : LT Y n T := by
  intro s j hs hj
  rw [(h.1 19 rfl).2, (h.1 20 rfl).2]
  exact hT s j hs hj
theorem LD_fr (hT : LD A b p X k) (h : cx_fr fL X Y) : LD A b p Y k := by
  unfold LD
  rw [h.2.1 rfl, (h.1 15 rfl).1, (h.1 15 rfl).1]
  refine ⟨hT.1, hT.2.1, hT.2.2.1, fun i hi => ?_⟩
  rw [(h.1 17 rfl).2, (h.1 18 rfl).2]
  exact hT.2.2.2 i hi
theorem LD_ua (hT : LD A b p X k) {c m : Nat} {y : Int32} (h : c ≠ 17 ∧ c ≠ 18) : LD A b p (cx_ua X c m y) k := by
  refine ⟨hT.1, hT.2.1, hT.2.2.1, fun i hi => ?_⟩
  rw [cx_a_ua, cx_a_ua, if_neg (fun z => h.1 z.1.symm), if_neg (fun z => h.2 z.1.symm)]
  exact hT.2.2.2 i hi
/-- the lifts when at paper o, source s, entry i of o's list, place j -/
def ldT (A : ab_T) (p : Nat) (S : List Nat) (s o i j : Nat) : Nat → Nat → Nat × Nat := fun a c => if a < s then ab_lf A (q_e A p c) (S.getD a 0) else if a = s then ((ab_l A o).take (if c < j then i + 1 else i)).foldl (lf_st A (q_e A p c)) (NW, 0) else (NW, 0)
theorem ldT_step (hj : j < (ab_l A p).length) (hi : (ab_l A o)[i]? = some f) : ∀ a c, ldT A p S s o i (j + 1) a c = upT (ldT A p S s o i j) s j (lf_st A (q_e A p j) (ldT A p S s o i j s j) f) a c := by
  intro a c
  unfold upT
  by_cases h : a = s ∧ c = j
  · rw [if_pos h]
    obtain ⟨rfl, rfl⟩ := h
    unfold ldT
    rw [if_neg (Nat.lt_irrefl _), if_pos rfl, if_pos (Nat.lt_succ_self _), if_neg (Nat.lt_irrefl _), if_pos rfl, if_neg (Nat.lt_irrefl _), take_1 hi, List.foldl_append]
    rfl
  · rw [if_neg h]
    unfold ldT
    by_cases h1 : a < s
    · rw [if_pos h1, if_pos h1]
    · rw [if_neg h1, if_neg h1]
      by_cases h2 : a = s
      · rw [if_pos h2, if_pos h2]
        by_cases h3 : c < j
        · rw [if_pos h3, if_pos (by omega)]
        · rw [if_neg h3, if_neg (by omega)]
      · rw [if_neg h2, if_neg h2]
end Chs
/-! load -/
def cnt (x o : Nat) : Nat := ((List.range o).filter (fun k => x.testBit k)).length
def ld0 (A : ab_T) (p : Nat) (S : List Nat) (s : Nat) : Nat → Nat → Nat × Nat := fun a c => if a < s then ab_lf A (q_e A p c) (S.getD a 0) else (NW, 0)
section Chl
variable {d b i j k m n p o e f u v x s : Nat} {X Y Z : cx_T} {t : ms_S} {A : ab_T} {S : List Nat} {T : Nat → Nat → Nat × Nat}
theorem cnt_s : cnt x (o + 1) = cnt x o + if x.testBit o then 1 else 0 := by
  unfold cnt
  rw [List.range_succ, List.filter_append, List.length_append]
  congr 1
  rw [List.filter_cons]
  by_cases h : x.testBit o
  · rw [if_pos h, if_pos h]; rfl
  · rw [if_neg h, if_neg h]; rfl
theorem sl_atm : ∀ r : Nat, x.testBit o = true → ((List.range (o + 1 + r)).filter (fun k => x.testBit k))[cnt x o]? = some o
  | 0, h => by
    rw [Nat.add_zero, List.range_succ, List.filter_append, show cnt x o = ((List.range o).filter (fun k => x.testBit k)).length from rfl, List.getElem?_append_right (Nat.le_refl _)]
    rw [Nat.sub_self, List.filter_cons, if_pos h]
    rfl
  | r + 1, h => by
    have ih := sl_atm r h
    obtain ⟨hl, _⟩ := List.getElem?_eq_some_iff.mp ih
    rw [← Nat.add_assoc, List.range_succ, List.filter_append, List.getElem?_append_left hl]
    exact ih
theorem sl_at (ho : o < 16) (h : x.testBit o = true) : (sl x)[cnt x o]? = some o := by
  have k := sl_atm (x := x) (o := o) (15 - o) h
  rw [show o + 1 + (15 - o) = 16 by omega] at k
  exact k
theorem sl_getD (ho : o < 16) (h : x.testBit o = true) : (sl x).getD (cnt x o) 0 = o := by
  rw [List.getD_eq_getElem?_getD, sl_at ho h]
  rfl
theorem mn_12 (hn : n ≤ 12) : (if 0 < (if nI n < 12 then nI n else 12) then (if nI n < 12 then nI n else 12) else (0 : Int32)) = nI n := by
  have e : (if nI n < 12 then nI n else (12 : Int32)) = nI n := by
    by_cases h : nI n < 12
    · rw [if_pos h]
    · rw [if_neg h]
      rw [show (12 : Int32) = nI 12 from rfl, ms_nlt (by omega) (by decide)] at h
      rw [show n = 12 by omega]
      rfl
  rw [e]
  by_cases h : 0 < nI n
  · rw [if_pos h]
  · rw [if_neg h]
    rw [show (0 : Int32) = nI 0 from rfl, ms_nlt (by decide) (by omega)] at h
    rw [show n = 0 by omega]
    rfl
theorem k_fill19 {v : Int32} : ms_Cl (d + 1) 274 [.ref 19, .int v] (ms_x X t) none (ms_x (cx_sa X 19 (ms_fill (cx_a X 19) 108 v)) t) := cx_fill (c := 19) (n := 108) (fun _ => rfl) (fun _ _ => rfl) (by decide) (by decide)
theorem LT_0 (hn : n ≤ 12) : LT (cx_sa X 19 (ms_fill (cx_a X 19) 108 100000000)) n (ld0 A p S 0) := by
  intro s j hs hj
  unfold ld0
  rw [if_neg (Nat.not_lt_zero _), cx_a_sa]
  refine ⟨?_, Nat.le_refl _, fun z => absurd rfl z⟩
  unfold ms_fill
  rw [if_pos (by omega)]
  rfl
def LI (A : ab_T) (b p x : Nat) (X Y : cx_T) (s m : Nat) (T : Nat → Nat → Nat × Nat) : Prop := cx_fr fC X Y ∧ LD A b p Y (ab_l A p).length ∧ cx_i Y 15 4 = nI s ∧ (∀ a, a < m → cx_a Y 16 a = nI (q_op A p (sl x) a)) ∧ LT Y (ab_l A p).length T
theorem LI_eq {T2 : Nat → Nat → Nat × Nat} (h : LI A b p x X Y s m T) (e : ∀ a c, a < 9 → c < (ab_l A p).length → T2 a c = T a c) : LI A b p x X Y s m T2 := ⟨h.1, h.2.1, h.2.2.1, h.2.2.2.1, LT_eq h.2.2.2.2 e⟩
theorem LI_fr (h : LI A b p x X Y s m T) (f : cx_fr fL Y Z) : LI A b p x X Z s m T := by
  refine ⟨fr_t h.1 (fr_s f fL_C), LD_fr h.2.1 f, ?_, fun a ha => ?_, LT_fr h.2.2.2.2 f⟩
  · rw [(f.1 15 rfl).1]; exact h.2.2.1
  · rw [(f.1 16 rfl).2]; exact h.2.2.2.1 a ha
theorem ix_12 {a c : Nat} : (nI a * 12) + nI c = nI (a * 12 + c) := by
  show nI a * nI 12 + nI c = _
  rw [nI_mul, ms_p1]
theorem k_ld207 {Q : Option Value → ms_S → Prop} (h : CX A b X t) (hp : p < ab_p A) (hs : s < 9) (hi : (ab_l A o)[i]? = some f) (Hend : ∀ Y, LI A b p x X Y s m (ldT A p (sl x) s o (i + 1) 0) → ms_V cd_X1_load none 0 (ms_Cl (d + 5)) Q 182 [(0, .ref 15), (1, .ref b), (2, .int (nI p)), (3, .int (nI x)), (4, .int (nI o)), (5, .int (nI i + 1))] [] (ms_x Y t)) : ∀ r j Y, j + r = (ab_l A p).length → LI A b p x X Y s m (ldT A p (sl x) s o i j) → ms_V cd_X1_load none 0 (ms_Cl (d + 5)) Q 207 [(0, .ref 15), (1, .ref b), (2, .int (nI p)), (3, .int (nI x)), (4, .int (nI o)), (5, .int (nI i)), (6, .int (nI f)), (7, .int (nI j))] [] (ms_x Y t) := by
  have hn := h.w.2.2.2.2.2 p
  have hfe := (ab_l_lt hi).1
  have we := h.w.2.2.2.1
  intro r
  induction r with
  | zero =>
    intro j Y hj hI
    refine b_X1_load_207 (ms_oI_i xf_15_3 ?_)
    rw [hI.2.1.2.2.1]
    refine ms_yes ((ms_nle (by omega) (by omega)).mpr (by omega)) (Hend Y (LI_eq hI (fun a c ha hc => ?_)))
    unfold ldT
    rw [if_pos (show c < j by omega), if_neg (Nat.not_lt_zero c)]
  | succ r ih =>
    intro j Y hj hI
    have hY := h.fr hI.1
    refine b_X1_load_207 (ms_oI_i xf_15_3 ?_)
    rw [hI.2.1.2.2.1]
    refine ms_no (fun z => by rw [ms_nle (by omega) (by omega)] at z; omega) ?_
    have hje := q_e_of (A := A) (p := p) (i := j) (by omega)
    obtain ⟨hje1, hje2⟩ := ab_l_lt hje
    refine ms_c1_i (k_entryAt hY hp hje) (ms_c1_i (k_thingOf hY hfe) (ms_c1_i (k_thingOf hY hje1) ?_))
    have hT := fun a c => ldT_step (A := A) (p := p) (S := sl x) (s := s) (o := o) (i := i) (j := j) (f := f) (by omega) hi a c
    refine ms_ite2 (fun z => ?_) (fun z => ?_)
    · rw [ms_nI_eq (by have := we f 1; omega) (by have := we (q_e A p j) 1; omega)] at z
      simp only [xf_15_4, xf_15_0, ms_oI_e, ms_oR_e]
      rw [hI.2.2.1, ix_12]
      refine mx_q1 (k_slipsBetween hY hfe hje1) (fun Z hz => ?_)
      have hZ := LI_fr hI hz
      have hc := ab_slips_le (A := A) (a := f) (e := q_e A p j)
      refine ms_c0_i (k_offer hs (show j < (ab_l A p).length by omega) hn hZ.2.2.2.2 (by omega)) ?_
      rw [show nI j + 1 = nI (j + 1) from ms_p1 1]
      refine ih (j + 1) _ (by omega) ?_
      have hL := LT_up (f := f) (c := ab_slips A f (q_e A p j)) hs (show j < (ab_l A p).length by omega) hn hZ.2.2.2.2 (by unfold NW; omega)
      have hL2 := LT_eq (T2 := ldT A p (sl x) s o i (j + 1)) hL (fun a c _ _ => by
        rw [hT a c]
        congr 1
        unfold lf_st
        rw [if_pos z])
      refine ⟨?_, ?_, ?_, ?_, hL2⟩
      · split
        · exact fr_a (fr_a hZ.1 rfl) rfl
        · exact hZ.1
      · split
        · exact LD_ua (LD_ua hZ.2.1 (by decide)) (by decide)
        · exact hZ.2.1
      · split
        · exact hZ.2.2.1
        · exact hZ.2.2.1
      · intro a ha
        split
        · rw [cx_a_ua, cx_a_ua, if_neg (fun z => by omega), if_neg (fun z => by omega)]
          exact hZ.2.2.2.1 a ha
        · exact hZ.2.2.2.1 a ha
    · rw [ms_nI_eq (by have := we f 1; omega) (by have := we (q_e A p j) 1; omega)] at z
      rw [show nI j + 1 = nI (j + 1) from ms_p1 1]
      refine ih (j + 1) _ (by omega) (LI_eq hI (fun a c _ _ => ?_))
      rw [hT a c]
      unfold upT lf_st
      by_cases hac : a = s ∧ c = j
      · rw [if_pos hac, if_neg z, hac.1, hac.2]
      · rw [if_neg hac]
theorem k_ld182 {Q : Option Value → ms_S → Prop} (h : CX A b X t) (hp : p < ab_p A) (ho : o < ab_p A) (hs : s < 9) (ho16 : o < 16) (hb : x.testBit o = true) (hsc : s = cnt x o) (Hend : ∀ Y, LI A b p x X Y s m (ld0 A p (sl x) (s + 1)) → ms_V cd_X1_load none 0 (ms_Cl (d + 5)) Q 131 [(0, .ref 15), (1, .ref b), (2, .int (nI p)), (3, .int (nI x)), (4, .int (nI o + 1))] [] (ms_x (cx_ui Y 15 4 (nI (s + 1))) t)) : ∀ r i Y, i + r = (ab_l A o).length → LI A b p x X Y s m (ldT A p (sl x) s o i 0) → ms_V cd_X1_load none 0 (ms_Cl (d + 5)) Q 182 [(0, .ref 15), (1, .ref b), (2, .int (nI p)), (3, .int (nI x)), (4, .int (nI o)), (5, .int (nI i))] [] (ms_x Y t) := by
  have hn := h.w.2.2.2.2.2 o
  intro r
  induction r with
  | zero =>
    intro i Y hi hI
    have hY := h.fr hI.1
    refine b_X1_load_182 (ms_c1_i (k_size hY ho) ?_)
    refine ms_yes ((ms_nle (by omega) (by omega)).mpr (by omega)) ?_
    simp only [xf_15_4, ms_oI_e, xp_15_4]
    rw [hI.2.2.1, show nI s + 1 = nI (s + 1) from ms_p1 1]
    refine Hend Y (LI_eq hI (fun a c ha hc => ?_))
    unfold ldT ld0
    by_cases h1 : a < s
    · rw [if_pos h1, if_pos (by omega)]
    · rw [if_neg h1]
      by_cases h2 : a = s
      · rw [if_pos h2, if_pos (by omega), if_neg (Nat.not_lt_zero c), show i = (ab_l A o).length by omega, List.take_length]
        unfold ab_lf
        rw [h2, hsc, sl_getD ho16 hb]
      · rw [if_neg h2, if_neg (by omega)]
  | succ r ih =>
    intro i Y hi hI
    have hY := h.fr hI.1
    refine b_X1_load_182 (ms_c1_i (k_size hY ho) ?_)
    refine ms_no (fun z => by rw [ms_nle (by omega) (by omega)] at z; omega) ?_
    have hie := q_e_of (A := A) (p := o) (i := i) (by omega)
    refine ms_c1_i (k_entryAt hY ho hie) ?_
    refine k_ld207 h hp hs hie (fun Z hZ => ?_) (ab_l A p).length 0 Y (by omega) hI
    rw [show nI i + 1 = nI (i + 1) from ms_p1 1]
    exact ih (i + 1) Z (by omega) hZ
theorem cx_a_self {c n : Nat} {y : Int32} : cx_a (cx_ua X c n y) c n = y := by
  rw [cx_a_ua, if_pos ⟨rfl, rfl⟩]
theorem cx_i_self {c k : Nat} {y : Int32} : cx_i (cx_ui X c k y) c k = y := by
  unfold cx_i cx_ui upd
  simp only [if_true]
theorem k_ld131 (h : CX A b X t) (hp : p < ab_p A) (hx : x < 2 ^ 16) (hxp : ∀ o, x.testBit o = true → o < ab_p A) (hm : (sl x).length ≤ 9) : ∀ r o Y, o + r = 16 → LI A b p x X Y (cnt x o) (cnt x o) (ld0 A p (sl x) (cnt x o)) → ms_V cd_X1_load none 0 (ms_Cl (d + 5)) (fN fC X t (CK A b p (sl x))) 131 [(0, .ref 15), (1, .ref b), (2, .int (nI p)), (3, .int (nI x)), (4, .int (nI o))] [] (ms_x Y t) := by
  intro r
  induction r with
  | zero =>
    intro o Y ho hI
    refine b_X1_load_131 (ms_yes ?_ ?_)
    · rw [show o = 16 by omega]; decide
    have ho16 : o = 16 := by omega
    subst ho16
    have hc : cnt x 16 = (sl x).length := rfl
    rw [hc] at hI
    refine ⟨Y, hI.1, rfl, rfl, hI.2.1, hI.2.2.1, hm, hI.2.2.2.1, fun s j hs hj => ?_⟩
    obtain ⟨k1, k2, k3⟩ := hI.2.2.2.2 s j (by omega) hj
    unfold ld0 at k1 k3
    rw [if_pos hs] at k1 k3
    exact ⟨k1, k3⟩
  | succ r ih =>
    intro o Y ho hI
    have hY := h.fr hI.1
    have hcs := cnt_s (x := x) (o := o)
    refine b_X1_load_131 (ms_no ?_ ?_)
    · rw [show (16 : Int32) = nI 16 from rfl, ms_nle (by decide) (by omega)]
      omega
    refine ms_ite2 (fun z => ?_) (fun z => ?_)
    · rw [bit_0 (by omega) (by omega)] at z
      rw [z] at hcs
      rw [show nI o + 1 = nI (o + 1) from ms_p1 1]
      refine ih (o + 1) Y (by omega) ?_
      rw [hcs]
      exact hI
    · have hb : x.testBit o = true := by
        rw [bit_0 (by omega) (by omega)] at z
        simpa using z
      rw [hb] at hcs
      have hso := sl_at (by omega) hb
      obtain ⟨hsl, _⟩ := List.getElem?_eq_some_iff.mp hso
      have hop := hxp o hb
      refine ms_oI_i xf_15_4 ?_
      rw [hI.2.2.1]
      refine ms_yes ((ms_nlt (b := 9) (by omega) (by decide)).mpr (by omega)) ?_
      simp only [xf_15_5, xf_15_4, xf_15_0, ms_oI_e, ms_oR_e]
      rw [hI.2.2.1]
      refine mx_q1 (k_openTells hY hp hop) (fun Z hz => ?_)
      have hZ := LI_fr hI hz
      simp only [xw_16]
      refine ⟨ms_in (by omega) (by decide), ?_⟩
      rw [ms_nc (by omega)]
      have hI2 : LI A b p x X (cx_ua Z 16 (cnt x o) (nI (ab_open A p o))) (cnt x o) (cnt x o + 1) (ldT A p (sl x) (cnt x o) o 0 0) := by
        refine ⟨fr_a hZ.1 rfl, LD_ua hZ.2.1 (by decide), hZ.2.2.1, fun a ha => ?_, ?_⟩
        · rw [cx_a_ua]
          by_cases ha2 : a = cnt x o
          · rw [if_pos ⟨rfl, ha2⟩, ha2]
            unfold q_op
            rw [sl_getD (by omega) hb]
          · rw [if_neg (fun z => ha2 z.2)]
            exact hZ.2.2.2.1 a (by omega)
        · have k : LT (cx_ua Z 16 (cnt x o) (nI (ab_open A p o))) (ab_l A p).length (ld0 A p (sl x) (cnt x o)) := by
            intro s j hs hj
            rw [cx_a_ua, cx_a_ua, if_neg (fun z => by omega), if_neg (fun z => by omega)]
            exact hZ.2.2.2.2 s j hs hj
          refine LT_eq k (fun a c ha hc => ?_)
          unfold ldT ld0
          by_cases h1 : a < cnt x o
          · rw [if_pos h1, if_pos h1]
          · rw [if_neg h1, if_neg h1]
            by_cases h2 : a = cnt x o
            · rw [if_pos h2, if_neg (Nat.not_lt_zero c), List.take_zero]
              rfl
            · rw [if_neg h2]
      refine k_ld182 (d := d) h hp hop (by omega) (by omega) hb rfl (fun W hW => ?_) (ab_l A o).length 0 _ (by omega) hI2
      rw [show nI o + 1 = nI (o + 1) from ms_p1 1]
      refine ih (o + 1) _ (by omega) ?_
      rw [hcs]
      refine ⟨fr_i hW.1 rfl, ⟨hW.2.1.1, ?_, ?_, hW.2.1.2.2.2⟩, cx_i_self, hW.2.2.2.1, hW.2.2.2.2⟩
      · rw [cx_i_ui (by decide)]; exact hW.2.1.2.1
      · rw [cx_i_ui (by decide)]; exact hW.2.1.2.2.1
theorem k_ld32 (h : CX A b X t) (hp : p < ab_p A) (hx : x < 2 ^ 16) (hxp : ∀ o, x.testBit o = true → o < ab_p A) (hm : (sl x).length ≤ 9) : ∀ r j Y, j + r = (ab_l A p).length → cx_fr fC X Y → LD A b p Y j → ms_V cd_X1_load none 0 (ms_Cl (d + 5)) (fN fC X t (CK A b p (sl x))) 32 [(0, .ref 15), (1, .ref b), (2, .int (nI p)), (3, .int (nI x)), (4, .int (nI j))] [] (ms_x Y t) := by
  have hn := h.w.2.2.2.2.2 p
  intro r
  induction r with
  | zero =>
    intro j Y hj hf hL
    refine b_X1_load_32 (ms_oI_i xf_15_3 ?_)
    rw [hL.2.2.1]
    refine ms_yes ((ms_nle (by omega) (by omega)).mpr (by omega)) ?_
    simp only [xp_15_4, xf_15_8, ms_oR_e]
    refine ms_c0_i k_fill19 ?_
    refine k_ld131 (d := d) h hp hx hxp hm 16 0 _ rfl ?_
    refine ⟨fr_sa (fr_i hf rfl) rfl, ⟨hL.1, ?_, ?_, fun i hi => ?_⟩, ?_, fun a ha => absurd ha (Nat.not_lt_zero a), LT_0 hn⟩
    · show cx_i (cx_ui Y 15 4 0) 15 2 = _
      rw [cx_i_ui (by decide)]; exact hL.2.1
    · show cx_i (cx_ui Y 15 4 0) 15 3 = _
      rw [cx_i_ui (by decide)]; exact hL.2.2.1
    · exact hL.2.2.2 i (by omega)
    · show cx_i (cx_ui Y 15 4 0) 15 4 = _
      rw [cx_i_self]; rfl
  | succ r ih =>
    intro j Y hj hf hL
    have hY := h.fr hf
    refine b_X1_load_32 (ms_oI_i xf_15_3 ?_)
    rw [hL.2.2.1]
    refine ms_no (fun z => by rw [ms_nle (by omega) (by omega)] at z; omega) ?_
    have hje := q_e_of (A := A) (p := p) (i := j) (by omega)
    obtain ⟨hje1, hje2⟩ := ab_l_lt hje
    obtain ⟨_, hi⟩ := h.w.2.2.2.2.1 _ hje1
    refine ms_c1_i (k_entryAt hY hp hje) ?_
    simp only [xf_15_7, ms_oR_e]
    refine ms_c1_i (k_thingOf hY hje1) (ms_c1_i (k_isGhost hY hi) ?_)
    simp only [xw_18]
    refine ⟨ms_in (by omega) (by decide), ms_bi_01 _, ?_⟩
    rw [ms_nc (by omega)]
    simp only [xf_15_6, xf_15_7, xf_15_0, ms_oR_e, xr_18]
    refine ⟨ms_in (by omega) (by decide), ?_⟩
    rw [ms_nc (by omega), cx_a_self, show nI j + 1 = nI (j + 1) from ms_p1 1]
    have hend : ∀ (Z : cx_T) (v : Nat), cx_fr fL (cx_ua Y 18 j (ms_bi (ab_gh A (ab_en A (q_e A p j) 1)))) Z → v = q_lk A p j → ms_wI (ms_x Z t) 17 (nI j) (nI v) fun g19 => ms_V cd_X1_load none 0 (ms_Cl (d + 5)) (fN fC X t (CK A b p (sl x))) 32 [(0, .ref 15), (1, .ref b), (2, .int (nI p)), (3, .int (nI x)), (4, .int (nI (j + 1)))] [] g19 := by
      intro Z v hz hv
      simp only [xw_17]
      refine ⟨ms_in (by omega) (by decide), ?_⟩
      rw [ms_nc (by omega)]
      refine ih (j + 1) _ (by omega) (fr_a (fr_t (fr_a hf rfl) (fr_s hz fL_C)) rfl) ?_
      refine ⟨?_, ?_, ?_, fun i hi => ?_⟩
      · show cx_o Z = _
        rw [hz.2.1 rfl]; exact hL.1
      · show cx_i Z 15 2 = _
        rw [(hz.1 15 rfl).1]; exact hL.2.1
      · show cx_i Z 15 3 = _
        rw [(hz.1 15 rfl).1]; exact hL.2.2.1
      · rw [cx_a_ua, cx_a_ua, (hz.1 17 rfl).2, (hz.1 18 rfl).2, cx_a_ua, cx_a_ua]
        by_cases hij : i = j
        · rw [if_pos ⟨rfl, hij⟩, if_neg (fun z => by omega), if_pos ⟨rfl, hij⟩, hij, hv]
          exact ⟨rfl, rfl⟩
        · rw [if_neg (fun z => hij z.2), if_neg (fun z => by omega), if_neg (fun z => by omega), if_neg (fun z => hij z.2)]
          exact hL.2.2.2 i (by omega)
    have hY2 : CX A b (cx_ua Y 18 j (ms_bi (ab_gh A (ab_en A (q_e A p j) 1)))) t := hY.ua
    refine ms_ifT (fun hg => ?_) (fun hg => ?_)
    · refine mx_q1 (k_lookCosts hY2 hje1) (fun Z hz => hend Z _ hz ?_)
      unfold q_lk ab_look
      rw [hg]
      rfl
    · refine mx_q1 (k_birthCosts hY2 hje1) (fun Z hz => hend Z _ hz ?_)
      unfold q_lk ab_look
      rw [hg]
      rfl
theorem k_load (h : CX A b X t) (hp : p < ab_p A) (hx : x < 2 ^ 16) (hxp : ∀ o, x.testBit o = true → o < ab_p A) (hm : (sl x).length ≤ 9) : ms_H' (d + 6) 25 [.ref 15, .ref b, .int (nI p), .int (nI x)] (ms_x X t) (fN fC X t (CK A b p (sl x))) := by
  have hn := h.w.2.2.2.2.2 p
  refine mx_m (fun a b c => m_X1_load a b ⟨_, xo_15⟩ c) (fun r g' h => ?_) (b_X1_load_0 ?_)
  · obtain ⟨Y, _, e, _⟩ := h
    rw [e]
    exact ⟨ms_x_l, ms_x_t⟩
  simp only [xp_15_1, xp_15_2]
  have h2 : CX A b (cx_ui (cx_uo X (some b)) 15 2 (nI p)) t := h.fr (fr_i (fr_o (S := fC) fr_0 rfl) rfl)
  refine ms_c1_i (k_size h2 hp) ?_
  rw [mn_12 hn]
  simp only [xp_15_3]
  refine k_ld32 (d := d) h hp hx hxp hm (ab_l A p).length 0 _ (by omega) (fr_i (fr_i (fr_o fr_0 rfl) rfl) rfl) ⟨rfl, ?_, cx_i_self, fun i hi => absurd hi (Nat.not_lt_zero i)⟩
  rw [cx_i_ui (by decide)]
  exact cx_i_self
end Chl
