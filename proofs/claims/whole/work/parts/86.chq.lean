/-! THE CLASS'S CHOOSER: search, a row alone, origins; written by wip/whole/mdl.py from chq.txt -/
abbrev q_s (A : ab_T) (p : Nat) (S : List Nat) (x : Nat) : Nat := ck_s (q_op A p S) (q_lk A p) (q_lf A p S) S.length (ab_l A p).length x
def RI (A : ab_T) (p : Nat) (S : List Nat) (X : cx_T) (x : Nat) : Prop := RW A p S X 9 0 ∧ ∀ k, k < 9 → x.testBit k = true → RW A p S X k (hi x k)
def q_or (A : ab_T) (p : Nat) (S : List Nat) (x j : Nat) : Option Nat := if q_lk A p j ≤ ck_m (q_lf A p S j) x S.length then none else ((List.range S.length).find? (fun s => x.testBit s && decide (q_lf A p S j s = ck_m (q_lf A p S j) x S.length))).map (fun s => (ab_lf A (q_e A p j) (S.getD s 0)).2)
def or_I (o : Option Nat) : Int32 := match o with
  | none => -1
  | some f => nI f
/-- an array of the class's: its cell and length -/
def cA (c n : Nat) : Prop := (∀ X : cx_T, (cx_c X)[c]? = some (.inl (0, n, .inl (cx_a X c)))) ∧ (∀ (X : cx_T) k v, (cx_c X).set c (.inl (0, n, .inl (upd (cx_a X c) k v))) = cx_c (cx_ua X c k v)) ∧ c < 65
section Cha
variable {c n : Nat} {X : cx_T} {t : ms_S}
theorem cA_r (h : cA c n) {i : Int32} {K : Int32 → Prop} : ms_rI (ms_x X t) c 0 i K = (vp_in i n ∧ K (cx_a X c i.toNatClampNeg)) := by
  have e : ms_arr (ms_x X t) c = some (0, n, .inl (cx_a X c)) := by unfold ms_arr; rw [cx_get (h.1 X)]
  unfold ms_rI; rw [e]; rfl
theorem cA_l (h : cA c n) {K : Int32 → Prop} : ms_aL (ms_x X t) c K = K (nI n) := by
  have e : ms_arr (ms_x X t) c = some (0, n, .inl (cx_a X c)) := by unfold ms_arr; rw [cx_get (h.1 X)]
  unfold ms_aL; rw [e]; rfl
theorem cA_w (h : cA c n) {i x : Int32} {K : ms_S → Prop} : ms_wI (ms_x X t) c i x K = (vp_in i n ∧ K (ms_x (cx_ua X c i.toNatClampNeg x) t)) := by
  have e : ms_arr (ms_x X t) c = some (0, n, .inl (cx_a X c)) := by unfold ms_arr; rw [cx_get (h.1 X)]
  unfold ms_wI; rw [e]
  show (_ ∧ K ((ms_x X t).set c _)) = _
  rw [cx_set (X := X) _ _ (h.2.1 X _ _) h.2.2]
theorem cA_30 : cA 30 120 := ⟨fun _ => rfl, fun _ _ _ => rfl, by decide⟩
theorem cA_47 : cA 47 120 := ⟨fun _ => rfl, fun _ _ _ => rfl, by decide⟩
theorem cA_31 : cA 31 208 := ⟨fun _ => rfl, fun _ _ _ => rfl, by decide⟩
theorem cA_48 : cA 48 208 := ⟨fun _ => rfl, fun _ _ _ => rfl, by decide⟩
end Cha
section Chq
variable {d b i j k n p o e f u v x y s r c : Nat} {X Y Z : cx_T} {t : ms_S} {A : ab_T} {S : List Nat} {K : Int32 → ms_S → Prop}
theorem xf_15_1 (h : cx_o X = some b) : ms_fldR (ms_x X t) 15 1 1 = some b := ms_fldR_of xo_15 (by rw [h]; rfl)
theorem CK_ui (h : CK A b p S X) {q : Nat} {w : Int32} (hq : 4 < q) : CK A b p S (cx_ui X 15 q w) := by
  obtain ⟨⟨a1, a2, a3, a4⟩, a5, a6, a7, a8⟩ := h
  refine ⟨⟨a1, ?_, ?_, a4⟩, ?_, a6, a7, a8⟩
  · rw [cx_i_ui (by omega)]; exact a2
  · rw [cx_i_ui (by omega)]; exact a3
  · rw [cx_i_ui (by omega)]; exact a5
theorem RW_fr (h : RW A p S X r x) (f : cx_a Y 21 = cx_a X 21) (g : cx_a Y 22 = cx_a X 22) : RW A p S Y r x := by
  unfold RW
  rw [f, g]
  exact h
theorem RI_need (hx : x + 1 < 512) (h : RI A p S X x) : RW A p S X (rwi (rst (x + 1))) (rst (x + 1)) := by
  obtain ⟨k9, k1, k2⟩ := lowk_lt 9 (x + 1) (by omega) hx
  have hlow := rst_low k1 k2
  by_cases h0 : rst (x + 1) = 0
  · rw [h0]
    exact h.1
  · have hr : rst (x + 1) < 512 := Nat.lt_of_le_of_lt rst_le hx
    obtain ⟨j9, j1, j2⟩ := lowk_lt 9 _ h0 hr
    have e : rwi (rst (x + 1)) = lowk (rst (x + 1)) 9 := by unfold rwi; rw [if_neg h0]
    rw [e]
    generalize lowk (rst (x + 1)) 9 = q at *
    have hne : q ≠ lowk (x + 1) 9 := by
      intro z
      rw [z, hlow.2.2.1] at j1
      cases j1
    have hb : (x + 1).testBit q = true := by rw [← hlow.2.2.2 q hne]; exact j1
    have hlt : lowk (x + 1) 9 < q := by
      by_cases h1 : q < lowk (x + 1) 9
      · rw [k2 q h1] at hb
        cases hb
      · omega
    have e2 := hi_rst hlow hlt hb (fun s h1 h2 => by rw [← hlow.2.2.2 s (by omega)]; exact j2 s h2)
    have e3 := hi_next (x := x) (k := q) ⟨_, hlt, k1⟩
    rw [e2, e3]
    refine h.2 q j9 ?_
    have e4 : (hi (x + 1) q).testBit q = (hi x q).testBit q := by rw [e3]
    rw [hi_bit, hi_bit, hb, decide_eq_true (Nat.le_refl q)] at e4
    simpa using e4.symm
theorem RI_next (hx : x < 512) (h : x = 0 ∨ RI A p S X (x - 1)) (h1 : RW A p S Y (rwi x) x) (h2 : ∀ r z, r ≤ 9 → r ≠ rwi x → RW A p S X r z → RW A p S Y r z) : RI A p S Y x := by
  by_cases h0 : x = 0
  · subst h0
    refine ⟨h1, fun k _ hb => ?_⟩
    rw [Nat.zero_testBit] at hb
    cases hb
  · have h := h.resolve_left h0
    obtain ⟨k9, k1, k2⟩ := lowk_lt 9 x h0 hx
    have e : rwi x = lowk x 9 := by unfold rwi; rw [if_neg h0]
    rw [e] at h1 h2
    refine ⟨h2 9 0 (Nat.le_refl _) (by omega) h.1, fun k hk hb => ?_⟩
    by_cases hkk : k = lowk x 9
    · rw [hkk, hi_low k1 k2]
      exact h1
    · have hlt : lowk x 9 < k := by
        by_cases h1 : k < lowk x 9
        · rw [k2 k h1] at hb
          cases hb
        · omega
      have e3 := hi_next (x := x - 1) (k := k) ⟨lowk x 9, hlt, by rw [show x - 1 + 1 = x by omega]; exact k1⟩
      rw [show x - 1 + 1 = x by omega] at e3
      refine h2 k _ (by omega) hkk ?_
      rw [e3]
      refine h.2 k hk ?_
      have e4 : (hi x k).testBit k = (hi (x - 1) k).testBit k := by rw [e3]
      rw [hi_bit, hi_bit, hb, decide_eq_true (Nat.le_refl k)] at e4
      simpa using e4.symm
theorem ones_le (x : Nat) : ∀ m : Nat, ones x m ≤ m
  | 0 => Nat.le_refl _
  | m + 1 => by
    have := ones_le x m
    unfold ones
    split <;> omega
theorem ck_b_le {f : Nat → Nat} (hf : ∀ x, f x ≤ NW) : ∀ x, (ck_b f x).1 ≤ NW ∧ (ck_b f x).2 ≤ x
  | 0 => ⟨Nat.le_refl _, Nat.le_refl _⟩
  | x + 1 => by
    obtain ⟨a1, a2⟩ := ck_b_le hf x
    unfold ck_b
    split
    · exact ⟨hf x, by show x ≤ x + 1; omega⟩
    · exact ⟨a1, by omega⟩
theorem ck_b_lt {f : Nat → Nat} : ∀ x, 0 < x → (ck_b f x).2 < x
  | 0, h => absurd h (Nat.lt_irrefl _)
  | x + 1, _ => by
    unfold ck_b
    split
    · exact Nat.lt_succ_self _
    · by_cases h : 0 < x
      · have := ck_b_lt (f := f) x h
        omega
      · rw [show x = 0 by omega]
        exact Nat.succ_pos _
theorem q_s_le (hm : S.length ≤ 9) (hn : (ab_l A p).length ≤ 12) : q_s A p S x ≤ 69000 := ck_s_le (fun _ => q_op_le) (fun _ => q_lk_le) hm hn
theorem k_search (hC : CK A b p S X) (hn : (ab_l A p).length ≤ 12) : ms_H' (d + 4) 27 [.ref 15] (ms_x X t) (fN fC X t (fun Y => CK A b p S Y ∧ cx_i Y 15 13 = nI (ck_b (q_s A p S) (2 ^ S.length)).1 ∧ cx_i Y 15 14 = nI (ck_b (q_s A p S) (2 ^ S.length)).2)) := by
  have hm := hC.2.2.1
  have hp9 : 2 ^ S.length ≤ 512 := Nat.pow_le_pow_right (by decide) hm
  have hp0 : 0 < 2 ^ S.length := Nat.two_pow_pos _
  refine mx_m (fun a b c => m_X1_search a b ⟨_, xo_15⟩ c) fN_l (b_X1_search_0 ?_)
  simp only [xp_15_13, xp_15_14]
  have hle : ∀ x, q_s A p S x ≤ NW := fun x => Nat.le_trans (q_s_le hm hn) (by decide)
  suffices H : ∀ r x Y, x + r = 2 ^ S.length → cx_fr fC X Y → CK A b p S Y → (x = 0 ∨ RI A p S Y (x - 1)) → cx_i Y 15 13 = nI (ck_b (q_s A p S) x).1 → cx_i Y 15 14 = nI (ck_b (q_s A p S) x).2 → ms_V cd_X1_search none 0 (ms_Cl (d + 3)) (fN fC X t (fun Y => CK A b p S Y ∧ cx_i Y 15 13 = nI (ck_b (q_s A p S) (2 ^ S.length)).1 ∧ cx_i Y 15 14 = nI (ck_b (q_s A p S) (2 ^ S.length)).2)) 13 [(0, .ref 15), (1, .int (nI x))] [] (ms_x Y t) by
    refine H (2 ^ S.length) 0 _ (by omega) (fr_i (fr_i fr_0 rfl) rfl) (CK_ui (CK_ui hC (by decide)) (by decide)) (Or.inl rfl) ?_ cx_i_self
    rw [cx_i_ui (by decide)]
    exact cx_i_self
  intro r
  induction r with
  | zero =>
    intro x Y hx hf hCY hI h13 h14
    refine b_X1_search_13 (ms_oI_i xf_15_4 ?_)
    rw [hCY.2.1, pw_nI (by omega)]
    refine ms_yes ((ms_nle (by omega) (by omega)).mpr (by omega)) ⟨Y, hf, rfl, rfl, hCY, ?_⟩
    rw [show 2 ^ S.length = x by omega]
    exact ⟨h13, h14⟩
  | succ r ih =>
    intro x Y hx hf hCY hI h13 h14
    refine b_X1_search_13 (ms_oI_i xf_15_4 ?_)
    rw [hCY.2.1, pw_nI (by omega)]
    refine ms_no (fun z => by rw [ms_nle (by omega) (by omega)] at z; omega) ?_
    have hx2 : x < 2 ^ S.length := by omega
    refine mx_v1 (k_rowFor hCY hn hx2 (fun h0 => ?_)) (fun Z v fz ⟨e1, e2, e3⟩ => ?_)
    · have := RI_need (x := x - 1) (by omega) (hI.resolve_left h0)
      rw [show x - 1 + 1 = x by omega] at this
      exact this
    have hCZ := CK_fr hCY fz
    have h512 : x < 512 := by omega
    have hIZ := RI_next h512 hI e2 e3
    rw [e1]
    refine ms_c1_i (show ms_Cl _ 29 [.ref 15, .int (nI (rwi x))] (ms_x Z t) (some (.int (nI (q_s A p S x)))) (ms_x Z t) from k_sumAt hCZ hn (rwi_le h512) e2) (ms_c1_i (c_bitCount (m := 9) (by decide) h512) ?_)
    have h13z : cx_i Z 15 13 = nI (ck_b (q_s A p S) x).1 := by rw [(fz.1 15 rfl).1]; exact h13
    have h14z : cx_i Z 15 14 = nI (ck_b (q_s A p S) x).2 := by rw [(fz.1 15 rfl).1]; exact h14
    obtain ⟨b1, b2⟩ := ck_b_le hle x
    refine ms_oI_i xf_15_14 ?_
    rw [h14z]
    refine ms_c1_i (c_bitCount (m := 9) (by decide) (by omega)) ?_
    have fz2 : cx_fr fC X Z := fr_t hf (fr_s fz fR_C)
    have hs := q_s_le (x := x) hm hn
    unfold NW at b1
    have ho1 : ones x 9 < 2 ^ 31 := Nat.lt_of_le_of_lt (ones_le x 9) (by decide)
    have ho2 : ones (ck_b (q_s A p S) x).2 9 < 2 ^ 31 := Nat.lt_of_le_of_lt (ones_le _ 9) (by decide)
    have keep : ¬ (q_s A p S x < (ck_b (q_s A p S) x).1 ∨ q_s A p S x = (ck_b (q_s A p S) x).1 ∧ ones x 9 < ones (ck_b (q_s A p S) x).2 9) → ms_V cd_X1_search none 0 (ms_Cl (d + 3)) (fN fC X t (fun Y => CK A b p S Y ∧ cx_i Y 15 13 = nI (ck_b (q_s A p S) (2 ^ S.length)).1 ∧ cx_i Y 15 14 = nI (ck_b (q_s A p S) (2 ^ S.length)).2)) 13 [(0, .ref 15), (1, .int (nI x + 1))] [] (ms_x Z t) := by
      intro hno
      rw [show nI x + 1 = nI (x + 1) from ms_p1 1]
      refine ih (x + 1) Z (by omega) fz2 hCZ (Or.inr hIZ) ?_ ?_
      · rw [ck_b, if_neg hno]; exact h13z
      · rw [ck_b, if_neg hno]; exact h14z
    have take : (q_s A p S x < (ck_b (q_s A p S) x).1 ∨ q_s A p S x = (ck_b (q_s A p S) x).1 ∧ ones x 9 < ones (ck_b (q_s A p S) x).2 9) → ms_wF (ms_x Z t) 15 1 13 (.int (nI (q_s A p S x))) fun g12 => ms_wF g12 15 1 14 (.int (nI x)) fun g13 => ms_V cd_X1_search none 0 (ms_Cl (d + 3)) (fN fC X t (fun Y => CK A b p S Y ∧ cx_i Y 15 13 = nI (ck_b (q_s A p S) (2 ^ S.length)).1 ∧ cx_i Y 15 14 = nI (ck_b (q_s A p S) (2 ^ S.length)).2)) 13 [(0, .ref 15), (1, .int (nI x + 1))] [] g13 := by
      intro hyes
      simp only [xp_15_13, xp_15_14]
      rw [show nI x + 1 = nI (x + 1) from ms_p1 1]
      refine ih (x + 1) _ (by omega) (fr_i (fr_i fz2 rfl) rfl) (CK_ui (CK_ui hCZ (by decide)) (by decide)) (Or.inr ?_) ?_ ?_
      · exact ⟨RW_fr hIZ.1 rfl rfl, fun k hk hb => RW_fr (hIZ.2 k hk hb) rfl rfl⟩
      · rw [ck_b, if_pos hyes, cx_i_ui (by decide)]; exact cx_i_self
      · rw [ck_b, if_pos hyes]; exact cx_i_self
    refine ms_ite2 (fun z => ?_) (fun z => ?_)
    · rw [ms_nle ho2 ho1] at z
      refine ms_oI_i xf_15_13 ?_
      rw [h13z]
      refine ms_ite2 (fun w => ?_) (fun w => ?_)
      · rw [ms_nlt (by omega) (by omega)] at w
        exact take (Or.inl w)
      · rw [ms_nlt (by omega) (by omega)] at w
        have hno := keep (by omega)
        refine ms_oI_i xf_15_13 ?_
        refine ms_ite2 (fun w2 => ms_yes rfl hno) (fun w2 => hno)
    · rw [ms_nle ho2 ho1] at z
      refine ms_oI_i xf_15_13 ?_
      rw [h13z]
      refine ms_ite2 (fun w => ?_) (fun w => ?_)
      · rw [ms_nlt (by omega) (by omega)] at w
        exact take (Or.inl w)
      · rw [ms_nlt (by omega) (by omega)] at w
        refine ms_oI_i xf_15_13 ?_
        rw [h13z]
        refine ms_ite2 (fun w2 => ?_) (fun w2 => ?_)
        · rw [ms_nI_eq (by omega) (by omega)] at w2
          exact ms_no (by decide) (take (Or.inr ⟨w2, by omega⟩))
        · rw [ms_nI_eq (by omega) (by omega)] at w2
          exact keep (by omega)
theorem hi_0 : hi x 0 = x := by unfold hi; simp
theorem hi_9 (h : x < 512) : hi x 9 = 0 := by
  unfold hi
  rw [Nat.div_eq_of_lt (show x < 2 ^ 9 from h), Nat.zero_mul]
theorem hi_no (h : x.testBit s = false) : hi x s = hi x (s + 1) := by
  refine eq_of_bits (fun k => ?_)
  rw [hi_bit, hi_bit]
  by_cases hk : k = s
  · rw [hk, h, Bool.and_false, Bool.and_false]
  · rw [decide_eq_decide.mpr (show s ≤ k ↔ s + 1 ≤ k by omega)]
theorem hi_yes (h : x.testBit s = true) : rst (hi x s) = hi x (s + 1) := by
  have h1 : (hi x s).testBit s = true := by rw [hi_bit, h, decide_eq_true (Nat.le_refl s)]; rfl
  have h2 : ∀ k, k < s → (hi x s).testBit k = false := fun k hk => by rw [hi_bit, decide_eq_false (by omega)]; rfl
  have hl := rst_low h1 h2
  refine eq_of_bits (fun k => ?_)
  rw [hi_bit]
  by_cases hk : k = s
  · rw [hk, hl.2.2.1, decide_eq_false (by omega)]
    rfl
  · rw [hl.2.2.2 k hk, hi_bit, decide_eq_decide.mpr (show s ≤ k ↔ s + 1 ≤ k by omega)]
theorem hi_le : hi x s ≤ x := Nat.div_mul_le_self _ _
theorem k_rowAlone (hC : CK A b p S X) (hn : (ab_l A p).length ≤ 12) (hx : x < 2 ^ S.length) : ms_H' (d + 4) 30 [.ref 15, .int (nI x)] (ms_x X t) (fV fR X t (fun v Y => v = nI (rwi x) ∧ RW A p S Y (rwi x) x)) := by
  have hm := hC.2.2.1
  have h512 := pw_512 hm hx
  refine mx_m (fun a b c => m_X1_rowAlone a b ⟨_, xo_15⟩ c) fV_l (b_X1_rowAlone_0 ?_)
  refine mx_v1 (k_rowFor (x := 0) hC hn (Nat.two_pow_pos _) (fun z => absurd rfl z)) (fun Y v fy ⟨e1, e2, _⟩ => ?_)
  suffices H : ∀ k, k ≤ 9 → ∀ Y, cx_fr fR X Y → RW A p S Y (rwi (hi x k)) (hi x k) → ms_V cd_X1_rowAlone none 1 (ms_Cl (d + 3)) (fV fR X t (fun v Y => v = nI (rwi x) ∧ RW A p S Y (rwi x) x)) 9 [(0, .ref 15), (1, .int (nI x)), (2, .int (nI (rwi (hi x k)))), (3, .int (nI k - 1))] [] (ms_x Y t) by
    have h9 := H 9 (Nat.le_refl _) Y fy (by rw [hi_9 h512]; exact e2)
    rw [hi_9 h512] at h9
    rw [e1]
    exact h9
  intro k
  induction k with
  | zero =>
    intro _ Y fy hR
    refine b_X1_rowAlone_9 (ms_yes (by decide) ?_)
    rw [hi_0] at hR ⊢
    exact ⟨Y, _, fy, rfl, rfl, rfl, hR⟩
  | succ s ih =>
    intro hk Y fy hR
    have e : nI (s + 1) - 1 = nI s := ms_nI_m1
    rw [e]
    refine b_X1_rowAlone_9 (ms_no (Int32.not_lt.mpr (ms_nI_0 (by omega))) ?_)
    have e2 : nI s + (-1) = nI s - 1 := (Int32.sub_eq_add_neg _ _).symm
    rw [e2]
    refine ms_ite2 (fun z => ?_) (fun z => ?_)
    · rw [bit_1 (by omega) (by omega)] at z
      have hle : hi x s ≤ x := hi_le
      rw [sh_r (by omega) (by omega), sh_l (by have : x / 2 ^ s * 2 ^ s ≤ x := Nat.div_mul_le_self _ _; omega) (by omega)]
      refine mx_v1 (k_rowFor (x := x / 2 ^ s * 2 ^ s) (CK_fr hC fy) hn (Nat.lt_of_le_of_lt hle hx) (fun _ => ?_)) (fun Z v fz ⟨e1, e2, _⟩ => ?_)
      · have hy := hi_yes z
        unfold hi at hy hR
        rw [hy]
        exact hR
      · rw [e1]
        exact ih (by omega) Z (fr_t fy fz) e2
    · rw [bit_1 (by omega) (by omega)] at z
      have z2 : x.testBit s = false := by simpa using z
      rw [← hi_no z2] at hR ⊢
      exact ih (by omega) Y fy hR
theorem k_sumWith (hC : CK A b p S X) (hn : (ab_l A p).length ≤ 12) (hx : x < 2 ^ S.length) : ms_H' (d + 5) 31 [.ref 15, .int (nI x)] (ms_x X t) (fQ fR X t (nI (q_s A p S x))) := by
  refine mx_m (fun a b c => m_X1_sumWith a b ⟨_, xo_15⟩ c) fQ_l (b_X1_sumWith_0 ?_)
  refine mx_v1 (k_rowAlone hC hn hx) (fun Y v fy ⟨e1, e2⟩ => ?_)
  rw [e1]
  exact ms_c1_i (k_sumAt (CK_fr hC fy) hn (rwi_le (pw_512 hC.2.2.1 hx)) e2) ⟨Y, fy, rfl, rfl⟩
theorem find_range {P : Nat → Bool} {m : Nat} : ∀ k, k ≤ m → (∀ s, s < k → P s = false) → (List.range m).find? P = ((List.range (m - k)).map (· + k)).find? P
  | 0, _, _ => by simp
  | k + 1, hk, h => by
    rw [find_range k (by omega) (fun s hs => h s (by omega))]
    have e : m - k = (m - (k + 1)) + 1 := by omega
    rw [e, List.range_succ_eq_map, List.map_cons, List.find?_cons, Nat.zero_add, h k (Nat.lt_succ_self k)]
    simp only [List.map_map]
    congr 1
    apply List.map_congr_left
    intro a _
    show a + 1 + k = a + (k + 1)
    omega
theorem find_range_hit {P : Nat → Bool} {m k : Nat} (hk : k < m) (h : ∀ s, s < k → P s = false) (hp : P k = true) : (List.range m).find? P = some k := by
  rw [find_range k (by omega) h]
  have e : m - k = (m - (k + 1)) + 1 := by omega
  rw [e, List.range_succ_eq_map, List.map_cons, List.find?_cons, Nat.zero_add, hp]
theorem find_range_no {P : Nat → Bool} {m : Nat} (h : ∀ s, s < m → P s = false) : (List.range m).find? P = none := by
  rw [find_range m (Nat.le_refl _) h, Nat.sub_self]
  rfl
theorem k_firstAt (hC : CK A b p S X) (hn : (ab_l A p).length ≤ 12) (hx : x < 2 ^ S.length) (h14 : cx_i X 15 14 = nI x) (hj : j < (ab_l A p).length) (hc : c < NW) : ms_Cl (d + 1) 33 [.ref 15, .int (nI j), .int (nI c)] (ms_x X t) (some (.int (or_I (((List.range S.length).find? (fun s => x.testBit s && decide (q_lf A p S j s = c))).map (fun s => (ab_lf A (q_e A p j) (S.getD s 0)).2))))) (ms_x X t) := by
  have hm := hC.2.2.1
  have h512 := pw_512 hm hx
  refine m_X1_firstAt (Nat.le_refl _) (Nat.le_refl _) ⟨_, xo_15⟩ (b_X1_firstAt_0 (Q := ms_lf _ _) ?_)
  unfold NW at hc
  suffices H : ∀ r s, s + r = S.length → (∀ k, k < s → (x.testBit k && decide (q_lf A p S j k = c)) = false) → ms_V cd_X1_firstAt none 1 (ms_Cl d) (ms_lf (some (.int (or_I (((List.range S.length).find? (fun s => x.testBit s && decide (q_lf A p S j s = c))).map (fun s => (ab_lf A (q_e A p j) (S.getD s 0)).2))))) (ms_x X t)) 2 [(0, .ref 15), (1, .int (nI j)), (2, .int (nI c)), (3, .int (nI s))] [] (ms_x X t) from H S.length 0 (by omega) (fun k hk => absurd hk (Nat.not_lt_zero k))
  intro r
  induction r with
  | zero =>
    intro s hs hno
    refine b_X1_firstAt_2 (ms_oI_i xf_15_4 ?_)
    rw [hC.2.1]
    refine ms_yes ((ms_nle (by omega) (by omega)).mpr (by omega)) ⟨?_, rfl⟩
    rw [find_range_no (fun k hk => hno k (by omega))]
    rfl
  | succ r ih =>
    intro s hs hno
    have hql : q_lf A p S j s ≤ NW := q_lf_le
    unfold NW at hql
    refine b_X1_firstAt_2 (ms_oI_i xf_15_4 ?_)
    rw [hC.2.1]
    refine ms_no (fun z => by rw [ms_nle (by omega) (by omega)] at z; omega) (ms_oI_i xf_15_14 ?_)
    rw [h14, show nI s + 1 = nI (s + 1) from ms_p1 1]
    obtain ⟨g1, g2⟩ := hC.2.2.2.2 s j (by omega) hj
    have next : (x.testBit s && decide (q_lf A p S j s = c)) = false → ms_V cd_X1_firstAt none 1 (ms_Cl d) (ms_lf (some (.int (or_I (((List.range S.length).find? (fun s => x.testBit s && decide (q_lf A p S j s = c))).map (fun s => (ab_lf A (q_e A p j) (S.getD s 0)).2))))) (ms_x X t)) 2 [(0, .ref 15), (1, .int (nI j)), (2, .int (nI c)), (3, .int (nI (s + 1)))] [] (ms_x X t) := by
      intro hf
      refine ih (s + 1) (by omega) (fun k hk => ?_)
      by_cases hks : k = s
      · rw [hks]; exact hf
      · exact hno k (by omega)
    refine ms_ite2 (fun z => ?_) (fun z => ?_)
    · rw [bit_1 (by omega) (by omega)] at z
      have e1 : (nI s * 12) + nI j = nI (s * 12 + j) := ix_12
      rw [e1]
      simp only [xf_15_8, ms_oR_e, xr_19]
      refine ⟨ms_in (by omega) (by decide), ?_⟩
      rw [ms_nc (by omega), g1]
      refine ms_ite2 (fun w => ?_) (fun w => ?_)
      · rw [ms_nI_eq (by omega) (by omega)] at w
        simp only [xf_15_9, ms_oR_e, xr_20]
        refine ⟨ms_in (by omega) (by decide), ?_⟩
        rw [ms_nc (by omega), g2 (by unfold NW; omega)]
        refine ⟨?_, rfl⟩
        rw [find_range_hit (k := s) (by omega) hno (by rw [z, decide_eq_true w]; rfl)]
        rfl
      · rw [ms_nI_eq (by omega) (by omega)] at w
        exact next (by rw [decide_eq_false w, Bool.and_false])
    · rw [bit_1 (by omega) (by omega)] at z
      exact next (by rw [show x.testBit s = false by simpa using z]; rfl)
theorem q_e_inj (hi : i < (ab_l A p).length) (hj : j < (ab_l A p).length) (h : q_e A p i = q_e A p j) : i = j := by
  have hp : (ab_l A p).Pairwise (· < ·) := List.Pairwise.filter _ List.pairwise_lt_range
  rw [List.pairwise_iff_getElem] at hp
  have e : ∀ k (hk : k < (ab_l A p).length), q_e A p k = (ab_l A p)[k] := by
    intro k hk
    have := q_e_of hk
    rw [List.getElem?_eq_getElem hk] at this
    exact (Option.some.inj this).symm
  rw [e i hi, e j hj] at h
  by_cases h1 : i < j
  · have := hp i j hi hj h1
    omega
  · by_cases h2 : j < i
    · have := hp j i hj hi h2
      omega
    · omega
def fRc (c : Nat) (z : Nat) : Bool := fR z || decide (z = c)
theorem k_tellOrigins (h : CX A b X t) (hC : CK A b p S X) (hp : p < ab_p A) (hx : x < 2 ^ S.length) (h14 : cx_i X 15 14 = nI x) (hc : cA c 120) (hc15 : c < 12 ∨ 23 < c) : ms_H' (d + 5) 32 [.ref 15, .ref c] (ms_x X t) (fN (fRc c) X t (fun Y => (∀ j, j < (ab_l A p).length → cx_a Y c (q_e A p j) = or_I (q_or A p S x j)) ∧ ∀ i, (∀ j, j < (ab_l A p).length → i ≠ q_e A p j) → cx_a Y c i = cx_a X c i)) := by
  have hn := h.w.2.2.2.2.2 p
  have hm := hC.2.2.1
  have h512 := pw_512 hm hx
  have hfc : fRc c c = true := by unfold fRc; rw [decide_eq_true rfl, Bool.or_true]
  have hfr : ∀ z, fRc c z = false → fR z = false := fun z hz => by unfold fRc at hz; exact (Bool.or_eq_false_iff.mp hz).1
  refine mx_m (fun a b c => m_X1_tellOrigins a b ⟨_, xo_15⟩ c) fN_l (b_X1_tellOrigins_0 (ms_oI_i xf_15_14 ?_))
  rw [h14]
  refine mx_v1 (k_rowAlone hC hn hx) (fun Y v fy ⟨e1, e2⟩ => ?_)
  rw [e1]
  have hr9 := rwi_le h512
  generalize rwi x = rw at *
  suffices H : ∀ r j Z, j + r = (ab_l A p).length → cx_fr (fRc c) Y Z → (∀ i, i ≠ c → cx_a Z i = cx_a Y i) → (∀ i, i < j → cx_a Z c (q_e A p i) = or_I (q_or A p S x i)) → (∀ i, (∀ k, k < j → i ≠ q_e A p k) → cx_a Z c i = cx_a Y c i) → ms_V cd_X1_tellOrigins none 0 (ms_Cl (d + 4)) (fN (fRc c) X t (fun Y => (∀ j, j < (ab_l A p).length → cx_a Y c (q_e A p j) = or_I (q_or A p S x j)) ∧ ∀ i, (∀ j, j < (ab_l A p).length → i ≠ q_e A p j) → cx_a Y c i = cx_a X c i)) 11 [(0, .ref 15), (1, .ref c), (2, .int (nI rw)), (3, .int (nI j))] [] (ms_x Z t) from H (ab_l A p).length 0 Y (by omega) fr_0 (fun _ _ => rfl) (fun i hi => absurd hi (Nat.not_lt_zero i)) (fun _ _ => rfl)
  have hfY : cx_fr (fRc c) X Y := fr_s fy hfr
  have hcY : ∀ i, cx_a Y c i = cx_a X c i := by
    intro i
    have hz : fR c = false := decide_eq_false (by omega)
    exact (fy.1 c hz).2 i
  intro r
  induction r with
  | zero =>
    intro j Z hj fz ho ha hb
    have f15 : fRc c 15 = false := by unfold fRc; rw [decide_eq_false (by omega)]; rfl
    refine b_X1_tellOrigins_11 (ms_oI_i xf_15_3 ?_)
    rw [(fz.1 15 f15).1, (CK_fr hC fy).1.2.2.1]
    refine ms_yes ((ms_nle (by omega) (by omega)).mpr (by omega)) ⟨Z, fr_t hfY fz, rfl, rfl, fun i hi => ha i (by omega), fun i hi => ?_⟩
    rw [hb i (fun k hk => hi k (by omega)), hcY]
  | succ r ih =>
    intro j Z hj fz ho ha hb
    have f15 : fRc c 15 = false := by unfold fRc; rw [decide_eq_false (by omega)]; rfl
    have hCY := CK_fr hC fy
    have hCX : CX A b Z t := h.fr (fr_t hfY fz)
    have hi15 : ∀ k, cx_i Z 15 k = cx_i Y 15 k := (fz.1 15 f15).1
    have hoZ : cx_o Z = some b := by rw [fz.2.1 f15]; exact hCY.1.1
    have hje := q_e_of (A := A) (p := p) (i := j) (by omega)
    obtain ⟨hje1, hje2⟩ := ab_l_lt hje
    have hw := h.w.1.2.2.1
    refine b_X1_tellOrigins_11 (ms_oI_i xf_15_3 ?_)
    rw [hi15, hCY.1.2.2.1]
    refine ms_no (fun z => by rw [ms_nle (by omega) (by omega)] at z; omega) (ms_oR_i (xf_15_1 hoZ) (ms_oI_i xf_15_2 ?_))
    rw [hi15, hCY.1.2.1]
    refine ms_c1_i (k_entryAt hCX hp hje) (ms_no (Int32.not_lt.mpr (ms_nI_0 (by omega))) ?_)
    rw [cA_l hc]
    refine ms_no (fun z => by rw [ms_nle (by omega) (by omega)] at z; omega) ?_
    have e1 : (nI rw * 12) + nI j = nI (rw * 12 + j) := ix_12
    rw [e1]
    simp only [xf_15_10, xf_15_6, ms_oR_e, xr_21, xr_17]
    refine ⟨ms_in (by omega) (by decide), ms_in (by omega) (by decide), ?_⟩
    have hl : ck_m (q_lf A p S j) x S.length ≤ NW := ck_m_le _
    have hq := q_lk_le (A := A) (p := p) (i := j)
    unfold NW at hl
    rw [ms_nc (by omega), ms_nc (by omega), ho 21 (by omega), ho 17 (by omega), e2.1 j (by omega), (hCY.1.2.2.2 j (by omega)).1, show nI j + 1 = nI (j + 1) from ms_p1 1]
    have fin : ∀ w, w = or_I (q_or A p S x j) → ms_wI (ms_x Z t) c (nI (q_e A p j)) w fun g13 => ms_V cd_X1_tellOrigins none 0 (ms_Cl (d + 4)) (fN (fRc c) X t (fun Y => (∀ j, j < (ab_l A p).length → cx_a Y c (q_e A p j) = or_I (q_or A p S x j)) ∧ ∀ i, (∀ j, j < (ab_l A p).length → i ≠ q_e A p j) → cx_a Y c i = cx_a X c i)) 11 [(0, .ref 15), (1, .ref c), (2, .int (nI rw)), (3, .int (nI (j + 1)))] [] g13 := by
      intro w hw2
      rw [cA_w hc]
      refine ⟨ms_in (by omega) (by decide), ?_⟩
      rw [ms_nc (by omega)]
      refine ih (j + 1) _ (by omega) (fr_a fz hfc) (fun i hi => ?_) (fun i hi => ?_) (fun i hi => ?_)
      · rw [← ho i hi]
        funext n
        rw [cx_a_ua, if_neg (fun z => hi z.1)]
      · rw [cx_a_ua]
        by_cases hij : i = j
        · rw [if_pos ⟨rfl, by rw [hij]⟩, hw2, hij]
        · rw [if_neg (fun z => hij (q_e_inj (by omega) (by omega) z.2))]
          exact ha i (by omega)
      · rw [cx_a_ua, if_neg (fun z => hi j (Nat.lt_succ_self j) z.2)]
        exact hb i (fun k hk => hi k (by omega))
    refine ms_ite2 (fun z => ?_) (fun z => ?_)
    · rw [ms_nlt (by omega) (by omega)] at z
      have hCZ : CK A b p S Z := by
        obtain ⟨⟨a1, a2, a3, a4⟩, a5, a6, a7, a8⟩ := hCY
        refine ⟨⟨hoZ, ?_, ?_, fun i hi => ?_⟩, ?_, a6, fun s hs => ?_, fun s j hs hj => ?_⟩
        · rw [hi15]; exact a2
        · rw [hi15]; exact a3
        · rw [ho 17 (by omega), ho 18 (by omega)]; exact a4 i hi
        · rw [hi15]; exact a5
        · rw [ho 16 (by omega)]; exact a7 s hs
        · rw [ho 19 (by omega), ho 20 (by omega)]; exact a8 s j hs hj
      have h14Z : cx_i Z 15 14 = nI x := by
        rw [hi15, (fy.1 15 rfl).1]; exact h14
      refine ms_c1_i (k_firstAt hCZ hn hx h14Z (by omega) (by unfold NW; omega)) (fin _ ?_)
      unfold q_or
      rw [if_neg (by omega)]
    · rw [ms_nlt (by omega) (by omega)] at z
      refine fin _ ?_
      unfold q_or
      rw [if_pos (by omega)]
      rfl
end Chq
