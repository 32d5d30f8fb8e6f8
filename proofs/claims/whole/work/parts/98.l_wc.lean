/-! THE CLASS'S Maker; written by wip/whole/mdl.py from l_wc.txt -/
def cnN (mf : Nat → Option Nat) (n : Nat) : Nat := sm (fun i => if (mf i).isNone then 1 else 0) n
def GC (G : gT) (X : cx_T) (t : ms_S) : Prop := CX G.1 34 X t ∧ cx_i X 33 3 = nI G.2.2 ∧ cx_i X 33 2 = nI (cnN G.2.1 (ab_e G.1)) ∧ ∀ i, i < ab_e G.1 → cx_a X 40 i = or_I (G.2.1 i)
def wfr (X Y : cx_T) : Prop := (∀ c, c ≠ 33 → c ≠ 40 → (∀ k, cx_i Y c k = cx_i X c k) ∧ ∀ n, cx_a Y c n = cx_a X c n) ∧ cx_o Y = cx_o X ∧ ∀ c, c ≠ 34 → cx_b Y c = cx_b X c
def fW (X : cx_T) (t : ms_S) (P : cx_T → Prop) (r : Option Value) (g' : ms_S) : Prop := ∃ Y, wfr X Y ∧ g' = ms_x Y t ∧ r = none ∧ P Y
section Wc
variable {d b i j k n p o e f u v x y s r c : Nat} {X Y Z : cx_T} {t : ms_S} {A A0 : ab_T} {K : ms_S → Prop} {mf : Nat → Option Nat} {G : gT} {og : Option Nat}
theorem wfr_0 : wfr X X := ⟨fun _ _ _ => ⟨fun _ => rfl, fun _ => rfl⟩, rfl, fun _ _ => rfl⟩
theorem wfr_t (h : wfr X Y) (k : wfr Y Z) : wfr X Z := ⟨fun c h1 h2 => ⟨fun n => ((k.1 c h1 h2).1 n).trans ((h.1 c h1 h2).1 n), fun n => ((k.1 c h1 h2).2 n).trans ((h.1 c h1 h2).2 n)⟩, k.2.1.trans h.2.1, fun c hc => (k.2.2 c hc).trans (h.2.2 c hc)⟩
theorem wfr_i {m : Nat} {v : Int32} : wfr X (cx_ui X 33 m v) := ⟨fun c h1 h2 => ⟨fun k => cx_i_ui (fun z => h1 z.1), fun _ => rfl⟩, rfl, fun _ _ => rfl⟩
theorem wfr_a {m : Nat} {v : Int32} : wfr X (cx_ua X 40 m v) := ⟨fun c h1 h2 => ⟨fun _ => rfl, fun n => by rw [cx_a_ua, if_neg (fun z => h2 z.1)]⟩, rfl, fun _ _ => rfl⟩
theorem cx_b_ne {c2 : Nat} {B : bk_T} (h : c2 ≠ c) : cx_b (cx_ub X c B) c2 = cx_b X c2 := by
  show (if c2 = c then B else X.2.2.2.2.2 c2) = _
  rw [if_neg h]
  rfl
theorem wfr_b {B : bk_T} : wfr X (cx_ub X 34 B) := ⟨fun c h1 h2 => ⟨fun _ => rfl, fun _ => rfl⟩, rfl, fun c hc => cx_b_ne hc⟩
theorem fW_l {P : cx_T → Prop} : ∀ r g', fW X t P r g' → (ms_x X t).length ≤ g'.length ∧ ms_tot (ms_x X t) ≤ ms_tot g' := by
  rintro r g' ⟨Y, hf, rfl, _⟩
  exact ⟨ms_x_l, ms_x_t⟩
theorem mw_n0 {y : Nat} {as : List Value} {P : cx_T → Prop} (hh : ms_H' d y as (ms_x X t) (fW X t P)) (hk : ∀ Y, wfr X Y → P Y → K (ms_x Y t)) : ms_c0 (ms_Cl d y as (ms_x X t)) K := by
  obtain ⟨r, g', ⟨Y, hf, e1, e2, hp⟩, hc⟩ := hh
  rw [e1, e2] at hc
  exact ms_c0_i hc (hk Y hf hp)
theorem nI_rem {a b : Nat} (ha : a < 2 ^ 31) (h0 : 0 < b) (hb : b < 2 ^ 31) : nI a - nI a / nI b * nI b = nI (a % b) := by
  rw [nI_div ha h0 hb, nI_mul, nI_subk (Nat.div_mul_le_self a b)]
  have h1 := Nat.div_add_mod a b
  rw [Nat.mul_comm] at h1
  rw [show a - a / b * b = a % b by omega]
theorem k_draw (h3 : cx_i X 33 3 = nI s) (hs : s < 1000003) (h0 : 0 < n) (hn : n < 2 ^ 31) : ms_Cl (d + 1) 69 [.ref 33, .int (nI n)] (ms_x X t) (some (.int (nI (dr s % n)))) (ms_x (cx_ui X 33 3 (nI (dr s))) t) := by
  refine m_X4_draw ms_x_l ms_x_t ⟨_, xo_33⟩ (b_X4_draw_0 (Q := ms_lf _ _) (ms_oI_i xf_33_3 ⟨by decide, ?_⟩))
  have e : (cx_i X 33 3 * 1103 + 12345) - (cx_i X 33 3 * 1103 + 12345) / 1000003 * 1000003 = nI (dr s) := by
    rw [h3, show nI s * 1103 = nI (s * 1103) from nI_mul s 1103, show nI (s * 1103) + 12345 = nI (s * 1103 + 12345) from ms_p1 12345]
    unfold dr
    exact nI_rem (b := 1000003) (by omega) (by decide) (by decide)
  rw [e, xp_33_3]
  have hd := dr_lt (s := s)
  refine ms_no (fun z => by rw [show (0 : Int32) = nI 0 from rfl, ms_nle (by omega) (by omega)] at z; omega) (ms_oI_i xf_33_3 ⟨fun z => by rw [show (0 : Int32) = nI 0 from rfl, ms_nI_eq (by omega) (by omega)] at z; omega, ?_⟩)
  rw [cx_i_self, nI_rem (by omega) h0 hn]
  exact ⟨rfl, rfl⟩
theorem GC_dr (h : GC G X t) : GC (G.1, G.2.1, dr s) (cx_ui X 33 3 (nI (dr s))) t := ⟨h.1, cx_i_self, by rw [cx_i_ui (by decide)]; exact h.2.2.1, h.2.2.2⟩
theorem thl_s : thl A y (n + 1) = thl A y n ++ (if decide (ab_en A n 1 = y) then [n] else []) := filt_s
theorem thl_le : (thl A y n).length ≤ n := by
  have := List.length_filter_le (fun e => decide (ab_en A e 1 = y)) (List.range n)
  rw [List.length_range] at this
  exact this
theorem k_countOf (h : CX A 34 X t) (hy : y < 2 ^ 31) : ms_Cl (d + 3) 67 [.ref 33, .int (nI y)] (ms_x X t) (some (.int (nI (thl A y (ab_e A)).length))) (ms_x X t) := by
  have hw := h.w.1.2.2.1
  refine m_X4_countOf (Nat.le_refl _) (Nat.le_refl _) ⟨_, xo_33⟩ (b_X4_countOf_0 (Q := ms_lf _ _) ?_)
  suffices H : ∀ r e, e + r = ab_e A → ms_V cd_X4_countOf none 1 (ms_Cl (d + 2)) (ms_lf (some (.int (nI (thl A y (ab_e A)).length))) (ms_x X t)) 4 [(0, .ref 33), (1, .int (nI y)), (2, .int (nI (thl A y e).length)), (3, .int (nI e))] [] (ms_x X t) from H (ab_e A) 0 (by omega)
  intro r
  induction r with
  | zero =>
    intro e he
    refine b_X4_countOf_4 (ms_oR_i xf_33_0 (ms_oI_i (k_ec h) ?_))
    refine ms_yes ((ms_nle (by omega) (by omega)).mpr (by omega)) ?_
    rw [show ab_e A = e by omega]
    exact ⟨rfl, rfl⟩
  | succ r ih =>
    intro e he
    have H := ih (e + 1) (by omega)
    have hen := h.w.2.2.2.1 e 1
    refine b_X4_countOf_4 (ms_oR_i xf_33_0 (ms_oI_i (k_ec h) (ms_no (fun z => by rw [ms_nle (by omega) (by omega)] at z; omega) (ms_oR_i xf_33_0 (ms_c1_i (k_thingOf h (by omega)) ?_)))))
    rw [thl_s] at H
    rw [show nI e + 1 = nI (e + 1) from ms_p1 1, show nI (thl A y e).length + 1 = nI ((thl A y e).length + 1) from ms_p1 1]
    refine ms_ite2 (fun z => ?_) (fun z => ?_) <;> rw [ms_nI_eq (by omega) (by omega)] at z
    · rw [if_pos (decide_eq_true z), List.length_append, List.length_singleton] at H
      exact H
    · rw [decide_eq_false z, if_neg (by decide), List.append_nil] at H
      exact H
theorem k_pick (h : CX A 34 X t) (hy : y < 2 ^ 31) (hi : i < 2 ^ 31) : ms_Cl (d + 3) 68 [.ref 33, .int (nI y), .int (nI i)] (ms_x X t) (some (.int (or_I (thl A y (ab_e A))[i]?))) (ms_x X t) := by
  have hw := h.w.1.2.2.1
  refine m_X4_pick (Nat.le_refl _) (Nat.le_refl _) ⟨_, xo_33⟩ (b_X4_pick_0 (Q := ms_lf _ _) ?_)
  suffices H : ∀ r e, e + r = ab_e A → (thl A y e).length ≤ i → ms_V cd_X4_pick none 1 (ms_Cl (d + 2)) (ms_lf (some (.int (or_I (thl A y (ab_e A))[i]?))) (ms_x X t)) 5 [(0, .ref 33), (1, .int (nI y)), (2, .int (nI i)), (3, .int (nI (thl A y e).length)), (4, .int (nI e))] [] (ms_x X t) from H (ab_e A) 0 (by omega) (Nat.zero_le _)
  intro r
  induction r with
  | zero =>
    intro e he hl
    refine b_X4_pick_5 (ms_oR_i xf_33_0 (ms_oI_i (k_ec h) ?_))
    refine ms_yes ((ms_nle (by omega) (by omega)).mpr (by omega)) ?_
    rw [show ab_e A = e by omega, List.getElem?_eq_none hl]
    exact ⟨rfl, rfl⟩
  | succ r ih =>
    intro e he hl
    have H := ih (e + 1) (by omega)
    have hen := h.w.2.2.2.1 e 1
    have hle := thl_le (A := A) (y := y) (n := e)
    refine b_X4_pick_5 (ms_oR_i xf_33_0 (ms_oI_i (k_ec h) (ms_no (fun z => by rw [ms_nle (by omega) (by omega)] at z; omega) (ms_oR_i xf_33_0 (ms_c1_i (k_thingOf h (by omega)) ?_)))))
    rw [thl_s] at H
    rw [show nI e + 1 = nI (e + 1) from ms_p1 1, show nI (thl A y e).length + 1 = nI ((thl A y e).length + 1) from ms_p1 1]
    refine ms_ite2 (fun z => ?_) (fun z => ?_) <;> rw [ms_nI_eq (by omega) (by omega)] at z
    · rw [if_pos (decide_eq_true z), List.length_append, List.length_singleton] at H
      refine ms_ite2 (fun z2 => ?_) (fun z2 => ?_) <;> rw [ms_nI_eq (by omega) (by omega)] at z2
      · have := filt_at (P := fun e => decide (ab_en A e 1 = y)) (o := e) (decide_eq_true z) r
        rw [show e + 1 + r = ab_e A by omega] at this
        rw [← z2, show (thl A y (ab_e A))[(thl A y e).length]? = some e from this]
        exact ⟨rfl, rfl⟩
      · exact H (by omega)
    · rw [decide_eq_false z, if_neg (by decide), List.append_nil] at H
      exact H hl
theorem wAE_j {cl : Nat} {F : Nat → Nat} (hj : j < 4) : wAS (wAE A k y (fun i => if i < j then F i else 0) cl) (ab_e A) j (F j) = wAE A k y (fun i => if i < j + 1 then F i else 0) cl := by
  have : (fun a c => if a = ab_e A ∧ c = 2 + j then F j else ab_en (wAE A k y (fun i => if i < j then F i else 0) cl) a c) = fun a c => ab_en (wAE A k y (fun i => if i < j + 1 then F i else 0) cl) a c := by
    funext a c
    rw [wAE_en, wAE_en]
    by_cases ha : a = ab_e A
    · rw [if_pos ha]
      by_cases hc : c = 2 + j
      · rw [if_pos ⟨ha, hc⟩, if_pos ha, if_neg (show ¬ c = 0 by omega), if_neg (show ¬ c = 1 by omega), if_pos (show c < 6 by omega), if_pos (show c - 2 < j + 1 by omega), hc, show 2 + j - 2 = j by omega]
      · rw [if_neg (fun z => hc z.2), if_pos ha]
        by_cases h0 : c = 0
        · rw [if_pos h0, if_pos h0]
        · rw [if_neg h0, if_neg h0]
          by_cases h1 : c = 1
          · rw [if_pos h1, if_pos h1]
          · rw [if_neg h1, if_neg h1]
            by_cases h6 : c < 6
            · rw [if_pos h6, if_pos h6]
              by_cases hl : c - 2 < j
              · rw [if_pos hl, if_pos (by omega)]
              · rw [if_neg hl, if_neg (by omega)]
            · rw [if_neg h6, if_neg h6]
    · rw [if_neg (fun z => ha z.1), if_neg ha, if_neg ha]
  show ((ab_t A, ab_p A, ab_e A + 1), A.2.1, A.2.2.1, (fun a c => if a = ab_e A ∧ c = 2 + j then F j else ab_en (wAE A k y (fun i => if i < j then F i else 0) cl) a c), A.2.2.2.2) = _
  rw [this]
  rfl
theorem wAE_4 {cl : Nat} {F : Nat → Nat} : wAE A k y (fun i => if i < 4 then F i else 0) cl = wAE A k y F cl := by
  have : (fun a c => ab_en (wAE A k y (fun i => if i < 4 then F i else 0) cl) a c) = fun a c => ab_en (wAE A k y F cl) a c := by
    funext a c
    rw [wAE_en, wAE_en]
    by_cases h6 : c < 6
    · rw [if_pos h6, if_pos h6, if_pos (show c - 2 < 4 by omega)]
    · rw [if_neg h6, if_neg h6]
  show ((ab_t A, ab_p A, ab_e A + 1), A.2.1, A.2.2.1, (fun a c => ab_en (wAE A k y (fun i => if i < 4 then F i else 0) cl) a c), A.2.2.2.2) = _
  rw [this]
  rfl
theorem CX_b {B : bk_T} (h : CX A 34 X t) {A2 : ab_T} (hw : ab_w A2) (hr : RA A2 B) (hx : ab_x A2 = ab_x A) (h1 : bk_xc B = bk_xc (cx_b X 34)) (h2 : bk_tx B = bk_tx (cx_b X 34)) : CX A2 34 (cx_ub X 34 B) t := by
  have e : cx_b (cx_ub X 34 B) 34 = B := cx_b_ub
  refine ⟨h.1, hw, ?_, ?_⟩
  · rw [e]; exact hr
  · rw [e, hx]
    unfold TX
    rw [h1, h2]
    exact h.2.2.2
end Wc
