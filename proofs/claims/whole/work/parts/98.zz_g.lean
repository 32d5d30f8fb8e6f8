/-! THE CLASS'S Reader: wordAt; written by wip/whole/mdl.py from zz_g.txt -/
def WTX : List Nat := WL.flatMap (fun w => w ++ [32])
theorem WTX_l : WTX.length = 101 := by decide
theorem WTX_at : ∀ i, i < 101 → ms_wb.getD i 0 = nI (WTX.getD i 0) := by decide +kernel
theorem WL_c : ∀ w ∈ WL, ∀ c ∈ w, c ≠ 32 ∧ c < 256 := by decide
theorem drop_c {l R : List Nat} {i c : Nat} (h : l.drop i = c :: R) : i < l.length ∧ l.getD i 0 = c ∧ l.drop (i + 1) = R := by
  have hl : i < l.length := by
    rcases Nat.lt_or_ge i l.length with z | z
    · exact z
    · rw [List.drop_eq_nil_iff.mpr z] at h
      cases h
  rw [List.drop_eq_getElem_cons hl] at h
  injection h with h1 h2
  refine ⟨hl, ?_, h2⟩
  rw [List.getD_eq_getElem?_getD, List.getElem?_eq_getElem hl]
  exact h1
section Wa
variable {b : Nat → Nat} {n s e d i k : Nat} {X : cx_T} {t : ms_S} {R : List Nat} {Qf : Option Value → ms_S → Prop}
theorem byts_l : (byts b s e).length = e - s := by
  unfold byts
  rw [List.length_map, List.length_range]
theorem byts_g (h : i < e - s) : (byts b s e)[i]? = some (b (s + i)) := by
  unfold byts
  rw [List.getElem?_map, List.getElem?_range h]
  rfl
theorem nI_es (h : s ≤ e) : nI e - nI s = nI (e - s) := by
  have h1 : nI (e - s) + nI s = nI e := by
    rw [ms_p1, Nat.sub_add_cancel h]
  rw [← h1, Int32.add_sub_cancel]
theorem k_wlet (hT : TC X b n) (hse : s ≤ e) (hen : e ≤ n) : ∀ (w pre : List Nat) (i k : Nat) (v4 : Int32), WTX.drop i = w ++ 32 :: R → (∀ c ∈ w, c ≠ 32 ∧ c < 256) → ((pre = (byts b s e).take pre.length ∧ pre.length ≤ e - s ∧ v4 = nI pre.length) ∨ (v4 = -1 ∧ ∀ u, pre ++ u ≠ byts b s e)) → (pre ++ w = byts b s e → Qf (some (.int (nI k))) (ms_x X t)) → (pre ++ w ≠ byts b s e → ms_V cd_X5_wordAt none 1 (ms_Cl (d + 4)) Qf 10 [(0, .ref 3), (1, .int (nI s)), (2, .int (nI e)), (3, .int (nI (k + 1))), (4, .int 0), (5, .int (nI (i + w.length + 1)))] [] (ms_x X t)) → ms_V cd_X5_wordAt none 1 (ms_Cl (d + 4)) Qf 10 [(0, .ref 3), (1, .int (nI s)), (2, .int (nI e)), (3, .int (nI k)), (4, .int v4), (5, .int (nI i))] [] (ms_x X t) := by
  have hn := hT.1
  have el : nI e - nI s = nI (e - s) := nI_es hse
  have bl : (byts b s e).length = e - s := byts_l
  intro w
  induction w with
  | nil =>
    intro pre i k v4 hd hw hs hy hn'
    obtain ⟨hi, hg, _⟩ := drop_c hd
    rw [WTX_l] at hi
    refine b_X5_wordAt_10 (ms_c1_i st_len (ms_no (fun z => by rw [show (101 : Int32) = nI 101 from rfl, ms_nle (by decide) (by omega)] at z; omega) (ms_c1_i (st_ch0 hi) ?_)))
    rw [WTX_at i hi, hg]
    refine ms_yes rfl ?_
    rw [show nI k + 1 = nI (k + 1) from ms_p1 1, show nI i + 1 = nI (i + 1) from ms_p1 1, el]
    rcases hs with ⟨p1, p2, p3⟩ | ⟨p3, p4⟩
    · by_cases ha : pre.length = e - s
      · refine ms_yes (by rw [p3, ha]) (hy ?_)
        refine (List.append_nil _).trans (p1.trans ?_)
        rw [ha, ← bl, List.take_length]
      · refine ms_no (fun z => ?_) (hn' (fun z => ha ?_))
        · rw [p3, ms_nI_eq (by omega) (by omega)] at z
          exact ha z
        · rw [List.append_nil] at z
          rw [z, bl]
    · refine ms_no (fun z => ?_) (hn' (fun z => p4 [] z))
      have := ms_nI_0 (n := e - s) (by omega)
      rw [← z, p3] at this
      exact absurd this (by decide)
  | cons c w ih =>
    intro pre i k v4 hd hw hs hy hn'
    obtain ⟨hi, hg, hd2⟩ := drop_c hd
    rw [WTX_l] at hi
    have hc := hw c List.mem_cons_self
    refine b_X5_wordAt_10 (ms_c1_i st_len (ms_no (fun z => by rw [show (101 : Int32) = nI 101 from rfl, ms_nle (by decide) (by omega)] at z; omega) (ms_c1_i (st_ch0 hi) ?_)))
    rw [WTX_at i hi, hg]
    refine ms_no (fun z => hc.1 ?_) ?_
    · rw [show (32 : Int32) = nI 32 from rfl, ms_nI_eq (by omega) (by decide)] at z
      exact z
    rw [show nI i + 1 = nI (i + 1) from ms_p1 1]
    have next : ∀ v' : Int32, ((pre ++ [c] = (byts b s e).take (pre ++ [c]).length ∧ (pre ++ [c]).length ≤ e - s ∧ v' = nI (pre ++ [c]).length) ∨ (v' = -1 ∧ ∀ u, pre ++ [c] ++ u ≠ byts b s e)) → ms_V cd_X5_wordAt none 1 (ms_Cl (d + 4)) Qf 10 [(0, .ref 3), (1, .int (nI s)), (2, .int (nI e)), (3, .int (nI k)), (4, .int v'), (5, .int (nI (i + 1)))] [] (ms_x X t) := fun v' hs' => by
      refine ih (pre ++ [c]) (i + 1) k v' hd2 (fun c' h => hw c' (List.mem_cons_of_mem _ h)) hs' (fun z => hy ?_) (fun z => ?_)
      · rw [← z, List.append_assoc]
        rfl
      · rw [show i + 1 + w.length + 1 = i + (c :: w).length + 1 by rw [List.length_cons]; omega]
        refine hn' (fun z2 => z ?_)
        rw [List.append_assoc]
        exact z2
    have l1 : (pre ++ [c]).length = pre.length + 1 := by
      rw [List.length_append]
      rfl
    rcases hs with ⟨p1, p2, p3⟩ | ⟨p3, p4⟩
    · rw [p3]
      refine ms_no (Int32.not_lt.mpr (ms_nI_0 (by omega))) ?_
      rw [show nI s + nI pre.length = nI (s + pre.length) from ms_p1 _]
      by_cases ha : e ≤ s + pre.length
      · refine ms_yes ((ms_nle (by omega) (by omega)).mpr ha) (next _ (Or.inr ⟨rfl, fun u z => ?_⟩))
        have := congrArg List.length z
        rw [List.length_append, l1, bl] at this
        omega
      · refine ms_no (fun z => ha ((ms_nle (by omega) (by omega)).mp z)) (ms_oR_i xf_3_0 (ms_c1_i (k_byteAt hT (by omega)) ?_))
        have hbb := (hT.2.2 (s + pre.length) (by omega)).2
        have la : (byts b s e)[pre.length]? = some (b (s + pre.length)) := byts_g (by omega)
        by_cases hb : b (s + pre.length) = c
        · refine ms_yes (by rw [hb]) ?_
          rw [show nI pre.length + 1 = nI (pre.length + 1) from ms_p1 1]
          refine next _ (Or.inl ⟨?_, by omega, by rw [l1]⟩)
          rw [l1, List.take_add_one, la, hb]
          show pre ++ [c] = (byts b s e).take pre.length ++ [c]
          rw [← p1]
        · refine ms_no (fun z => hb (by rwa [ms_nI_eq (by omega) (by omega)] at z)) (next _ (Or.inr ⟨rfl, fun u z => hb ?_⟩))
          rw [← z, List.append_assoc, List.getElem?_append_right (Nat.le_refl _), Nat.sub_self] at la
          exact (Option.some.inj la).symm
    · refine ms_yes (by rw [p3]; decide) (next _ (Or.inr ⟨rfl, fun u z => p4 (c :: u) ?_⟩))
      rw [← z, List.append_assoc]
      rfl
theorem k_wlist (hT : TC X b n) (hse : s ≤ e) (hen : e ≤ n) : ∀ (W : List (List Nat)) (i k : Nat), WTX.drop i = W.flatMap (fun w => w ++ [32]) → i ≤ 101 → (∀ w ∈ W, ∀ c ∈ w, c ≠ 32 ∧ c < 256) → Qf (some (.int (nI (wdn (byts b s e) W k)))) (ms_x X t) → ms_V cd_X5_wordAt none 1 (ms_Cl (d + 4)) Qf 10 [(0, .ref 3), (1, .int (nI s)), (2, .int (nI e)), (3, .int (nI k)), (4, .int 0), (5, .int (nI i))] [] (ms_x X t) := by
  intro W
  induction W with
  | nil =>
    intro i k hd hi _ hq
    have h1 : WTX.length ≤ i := List.drop_eq_nil_iff.mp hd
    rw [WTX_l] at h1
    exact b_X5_wordAt_10 (ms_c1_i st_len (ms_yes (by rw [show (101 : Int32) = nI 101 from rfl, ms_nle (by decide) (by omega)]; exact h1) hq))
  | cons w W ih =>
    intro i k hd hi hw hq
    rw [List.flatMap_cons] at hd
    have hl := congrArg List.length hd
    rw [List.length_drop, WTX_l, List.length_append, List.length_append, show [32].length = 1 from rfl] at hl
    refine k_wlet hT hse hen (R := W.flatMap (fun w => w ++ [32])) w [] i k 0 (by rw [hd, List.append_assoc]; rfl) (hw w List.mem_cons_self) (Or.inl ⟨rfl, Nat.zero_le _, rfl⟩) (fun z => ?_) (fun z => ?_)
    · rw [wdn, if_pos (show w = byts b s e from z)] at hq
      exact hq
    · rw [wdn, if_neg (show ¬ w = byts b s e from z)] at hq
      refine ih (i + w.length + 1) (k + 1) ?_ (by omega) (fun w' h => hw w' (List.mem_cons_of_mem _ h)) hq
      have h2 := congrArg (List.drop (w.length + 1)) hd
      rw [List.drop_drop, List.drop_left' (by rw [List.length_append]; rfl)] at h2
      rw [show i + w.length + 1 = i + (w.length + 1) by omega]
      exact h2
end Wa
theorem HW_all : HW := fun X t b n s e d hT hse hen => m_X5_wordAt (Nat.le_refl _) (Nat.le_refl _) ⟨_, xo_3⟩ (b_X5_wordAt_0 (k_wlist hT hse hen WL 0 256 rfl (by decide) WL_c ⟨rfl, rfl⟩))
theorem HL_0 : HL := HL_all HW_all
