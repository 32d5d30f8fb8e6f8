/-! THE CLASS'S Maker: makeEntry, make; written by wip/whole/mdl.py from m_wd.txt -/
section Wd
variable {d b i j k n p o e f u v x y s r c : Nat} {X Y Z : cx_T} {t : ms_S} {A A0 : ab_T} {K : ms_S → Prop} {mf : Nat → Option Nat} {G : gT} {og : Option Nat}
theorem cx_i_ub {a m : Nat} {B : bk_T} : cx_i (cx_ub X c B) a m = cx_i X a m := rfl
theorem k_addE (h : CX A 34 X t) (he : ab_e A < 120) (hk : k < ab_p A) (hl : (ab_l A k).length < 12) (hy : y < ab_t A) {F : Nat → Nat} {cl : Nat} (hF : ∀ i, F i < 10000) (hc : cl < 10000) : ∃ B, ms_Cl (d + 4) 18 [.ref 34, .int (nI k), .int (nI y), .int (nI (F 0)), .int (nI (F 1)), .int (nI (F 2)), .int (nI (F 3)), .int (nI cl)] (ms_x X t) (some (.int (nI (ab_e A)))) (ms_x (cx_ub X 34 B) t) ∧ CX (wAE A k y F cl) 34 (cx_ub X 34 B) t := by
  have w0 : bk_w (cx_b X 34) := h.isb.2.2
  obtain ⟨⟨r1, r2, r3, r4⟩, r5, r6, r7, r8, r9⟩ := h.2.2.1
  refine ⟨bk_addE (cx_b X 34) k (nI y) (nI (F 0)) (nI (F 1)) (nI (F 2)) (nI (F 3)) (nI cl), ?_, ?_⟩
  · rw [← r3]
    exact xm_34 (X := X) fun h t => cb_addEntry (B := cx_b X 34) w0 (by rw [r2]; exact hk) (r7 k hk) hl (by rw [r3]; exact he)
  · exact CX_b h (ab_w_E h.w he hk hy hF hc hl) (RA_E h.2.2.1 h.w hk hl) rfl bk_addE_xc bk_addE_o.2
theorem k_setF (h : CX A 34 X t) (he : e < ab_e A) (hf : f < 4) (hv : v < 10000) : ∃ B, ms_Cl (d + 2) 20 [.ref 34, .int (nI e), .int (nI f), .int (nI v)] (ms_x X t) none (ms_x (cx_ub X 34 B) t) ∧ CX (wAS A e f v) 34 (cx_ub X 34 B) t := by
  have w0 : bk_w (cx_b X 34) := h.isb.2.2
  obtain ⟨⟨r1, r2, r3, r4⟩, r5, r6, r7, r8, r9⟩ := h.2.2.1
  refine ⟨bk_uen (cx_b X 34) (e * 8 + 3 + f) (nI v), ?_, ?_⟩
  · exact xm_34 (X := X) fun h t => cb_setField (B := cx_b X 34) w0 (by rw [r3]; exact he) hf
  · exact CX_b h (ab_w_S h.w hv) (RA_S h.2.2.1 he hf) rfl rfl rfl
/-- behind an entry's fields: the slip -/
theorem k_me105 (hk : k < ab_p A) (hy : y < ab_t A) (he : ab_e A < 120) (hl : (ab_l A k).length < 12) (hw : ab_w A) (ho : ∀ g, og = some g → g < ab_e A) (hs : s < 1000003) : ∀ r j Y, j + r = 4 → wfr X Y → CX (wAE A k y (fun i => if i < j then gF A y og i else 0) (ab_th A y 4)) 34 Y t → cx_i Y 33 3 = nI s → cx_i Y 33 2 = nI (cnN (gM1 A mf og) (ab_e A + 1)) → (∀ i, i < ab_e A + 1 → cx_a Y 40 i = or_I (gM1 A mf og i)) → ms_V cd_X4_makeEntry none 0 (ms_Cl (d + 4)) (fW X t (GC (gE2 A mf k y og s) · t)) 105 [(0, .ref 33), (2, .int (nI y)), (3, .int (or_I og)), (5, .int (nI (ab_e A))), (6, .int (nI j))] [] (ms_x Y t) := by
  intro r
  induction r with
  | zero =>
    intro j Y hj hf hC h3 h2 ho2
    have e4 : j = 4 := by omega
    subst e4
    rw [wAE_4, show wAE A k y (gF A y og) (ab_th A y 4) = gA1 A k y og from rfl] at hC
    have hen : ab_e A < ab_e (gA1 A k y og) := Nat.lt_succ_self _
    have d1 := dr_lt (s := s)
    have d2 := dr_lt (s := dr s)
    have d3 := dr_lt (s := dr (dr s))
    refine b_X4_makeEntry_105 (ms_yes (by decide) (ms_c1_i (k_draw (n := 6) h3 hs (by decide) (by decide)) ?_))
    have m6 : dr s % 6 < 6 := Nat.mod_lt _ (by decide)
    unfold gE2
    generalize dr s % 6 = q6 at m6 ⊢
    refine ms_ite2 (fun z => ?_) (fun z => ?_) <;> rw [show (0 : Int32) = nI 0 from rfl, ms_nI_eq (by omega) (by omega)] at z
    · rw [if_pos z]
      have f4 : dr (dr s) % 4 < 4 := Nat.mod_lt _ (by decide)
      have f10 : dr (dr (dr s)) % 10000 < 10000 := Nat.mod_lt _ (by decide)
      have hv := hC.w.2.2.2.1 (ab_e A) (2 + dr (dr s) % 4)
      refine ms_c1_i (k_draw (X := cx_ui Y 33 3 (nI (dr s))) (s := dr s) (n := 4) cx_i_self d1 (by decide) (by decide)) ?_
      simp only [xf_33_0, ms_oR_e]
      have hC2 : CX (gA1 A k y og) 34 (cx_ui (cx_ui Y 33 3 (nI (dr s))) 33 3 (nI (dr (dr s)))) t := hC
      refine ms_c1_i (k_fieldOf hC2 hen f4) ?_
      refine ms_c1_i (k_draw (s := dr (dr s)) (n := 10000) cx_i_self d2 (by decide) (by decide)) ⟨by decide, ?_⟩
      have ev : (nI (ab_en (gA1 A k y og) (ab_e A) (2 + dr (dr s) % 4)) * 7 + nI (dr (dr (dr s)) % 10000)) - (nI (ab_en (gA1 A k y og) (ab_e A) (2 + dr (dr s) % 4)) * 7 + nI (dr (dr (dr s)) % 10000)) / 10000 * 10000 = nI ((ab_en (gA1 A k y og) (ab_e A) (2 + dr (dr s) % 4) * 7 + dr (dr (dr s)) % 10000) % 10000) := by
        rw [show nI (ab_en (gA1 A k y og) (ab_e A) (2 + dr (dr s) % 4)) * 7 = nI (ab_en (gA1 A k y og) (ab_e A) (2 + dr (dr s) % 4) * 7) from nI_mul _ 7, ms_p1]
        exact nI_rem (b := 10000) (by omega) (by decide) (by decide)
      rw [ev]
      have hC3 : CX (gA1 A k y og) 34 (cx_ui (cx_ui (cx_ui Y 33 3 (nI (dr s))) 33 3 (nI (dr (dr s)))) 33 3 (nI (dr (dr (dr s))))) t := hC
      obtain ⟨B, c1, c2⟩ := k_setF (d := d + 2) hC3 hen f4 (v := (ab_en (gA1 A k y og) (ab_e A) (2 + dr (dr s) % 4) * 7 + dr (dr (dr s)) % 10000) % 10000) (Nat.mod_lt _ (by decide))
      refine ms_c0_i c1 ⟨_, wfr_t hf (wfr_t wfr_i (wfr_t wfr_i (wfr_t wfr_i wfr_b))), rfl, rfl, c2, ?_, ?_, fun i hi => ho2 i hi⟩
      · rw [cx_i_ub]
        exact cx_i_self
      · rw [cx_i_ub, cx_i_ui (by decide), cx_i_ui (by decide), cx_i_ui (by decide)]
        exact h2
    · rw [if_neg z]
      exact ⟨_, wfr_t hf wfr_i, rfl, rfl, hC, cx_i_self, by rw [cx_i_ui (by decide)]; exact h2, fun i hi => ho2 i hi⟩
  | succ r ih =>
    intro j Y hj hf hC h3 h2 ho2
    have hj4 : j < 4 := by omega
    have hen : ab_e A < ab_e (wAE A k y (fun i => if i < j then gF A y og i else 0) (ab_th A y 4)) := Nat.lt_succ_self _
    have hgf := gF_lt (A := A) (t := y) (o := og) (i := j) hw
    have next : ms_c0 (ms_Cl (d + 4) 20 [.ref 34, .int (nI (ab_e A)), .int (nI j), .int (nI (gF A y og j))] (ms_x Y t)) fun g16 => ms_V cd_X4_makeEntry none 0 (ms_Cl (d + 4)) (fW X t (GC (gE2 A mf k y og s) · t)) 105 [(0, .ref 33), (2, .int (nI y)), (3, .int (or_I og)), (5, .int (nI (ab_e A))), (6, .int (nI (j + 1)))] [] g16 := by
      obtain ⟨B, c1, c2⟩ := k_setF (d := d + 2) hC hen hj4 hgf
      rw [wAE_j hj4] at c2
      exact ms_c0_i c1 (ih (j + 1) _ (by omega) (wfr_t hf wfr_b) c2 h3 h2 ho2)
    refine b_X4_makeEntry_105 (ms_no (fun z => by rw [show (4 : Int32) = nI 4 from rfl, ms_nle (by omega) (by omega)] at z; omega) ?_)
    rw [show nI j + 1 = nI (j + 1) from ms_p1 1]
    cases og with
    | none =>
      refine ms_yes rfl ?_
      simp only [xf_33_0, ms_oR_e]
      refine ms_c1_i (k_ofThing hC hy (by omega)) ?_
      simp only [xf_33_0, ms_oR_e]
      exact next
    | some g =>
      have hg := ho g rfl
      refine ms_no (nI_m1 (x := g) (by omega)) ?_
      simp only [xf_33_0, ms_oR_e]
      refine ms_c1_i (k_fieldOf hC (i := g) (show g < ab_e A + 1 by omega) hj4) ?_
      simp only [xf_33_0, ms_oR_e]
      rw [wAE_en, if_neg (by omega)]
      exact next
/-- an entry more, its origin known -/
theorem k_metail (h : GC (A, mf, s) X t) (hf : wfr Z X) (hk : k < ab_p A) (hy : y < ab_t A) (he : ab_e A < 120) (hl : (ab_l A k).length < 12) (ho : ∀ g, og = some g → g < ab_e A) (hs : s < 1000003) : ms_oR (ms_fldR (ms_x X t) 33 4 0) fun x1 => ms_c1 (ms_Cl (d + 4) 10 [.ref x1, .int (nI y), .int 4] (ms_x X t)) fun r3 g2 => ms_oR (ms_fldR g2 33 4 0) fun x4 => ms_c1 (ms_Cl (d + 4) 18 [.ref x4, .int (nI k), .int (nI y), .int 0, .int 0, .int 0, .int 0, .int r3] g2) fun r6 g5 => ms_oR (ms_fldR g5 33 4 0) fun x7 => ms_c1 (ms_Cl (d + 4) 5 [.ref x7, .int r6] g5) fun r9 g8 => if r9 = 0 then (fW Z t (GC (gE2 A mf k y og s) · t) none g8) else (ms_oR (ms_fldR g8 33 4 1) fun x10 => ms_wI g8 x10 r6 (or_I og) fun g11 => if or_I og = (-1) then (ms_oI (ms_fldI g11 33 4 2) fun x12 => ms_wF g11 33 4 2 (.int (x12 + 1)) fun g13 => ms_V cd_X4_makeEntry none 0 (ms_Cl (d + 4)) (fW Z t (GC (gE2 A mf k y og s) · t)) 105 [(0, .ref 33), (2, .int (nI y)), (3, .int (or_I og)), (5, .int r6), (6, .int 0)] [] g13) else (ms_V cd_X4_makeEntry none 0 (ms_Cl (d + 4)) (fW Z t (GC (gE2 A mf k y og s) · t)) 105 [(0, .ref 33), (2, .int (nI y)), (3, .int (or_I og)), (5, .int r6), (6, .int 0)] [] g11)) := by
  obtain ⟨h1, h2, h3, h4⟩ := h
  simp only [xf_33_0, ms_oR_e]
  refine ms_c1_i (k_ofThing h1 hy (by decide)) ?_
  simp only [xf_33_0, ms_oR_e]
  obtain ⟨B, c1, c2⟩ := k_addE (d := d) (F := fun _ => 0) h1 he hk hl hy (fun _ => by decide) (h1.w.2.1 y 4)
  refine ms_c1_i c1 ?_
  simp only [xf_33_0, ms_oR_e]
  refine ms_c1_i (k_hasEntry c2 (i := ab_e A) (by omega)) ?_
  have hlt : decide (ab_e A < ab_e (wAE A k y (fun _ => 0) (ab_th A y 4))) = true := decide_eq_true (Nat.lt_succ_self _)
  rw [hlt]
  refine ms_no (by decide) ?_
  simp only [xf_33_1, ms_oR_e, xw_40]
  refine ⟨ms_in he (by decide), ?_⟩
  rw [ms_nc (by omega)]
  have i40 : ∀ i, i < ab_e A + 1 → cx_a (cx_ua (cx_ub X 34 B) 40 (ab_e A) (or_I og)) 40 i = or_I (gM1 A mf og i) := by
    intro i hi
    rw [cx_a_ua]
    unfold gM1
    by_cases hie : i = ab_e A
    · rw [if_pos ⟨rfl, hie⟩, if_pos hie]
    · rw [if_neg (fun z => hie z.2), if_neg hie]
      exact h4 i (by show i < ab_e A; omega)
  have hcn : cnN (gM1 A mf og) (ab_e A) = cnN mf (ab_e A) := sm_congr _ (fun i hi => by show (if (gM1 A mf og i).isNone = true then 1 else 0) = _; rw [show gM1 A mf og i = mf i from if_neg (by omega)])
  have hcs : cnN (gM1 A mf og) (ab_e A + 1) = cnN mf (ab_e A) + (if og.isNone then 1 else 0) := by
    rw [← hcn]
    show cnN (gM1 A mf og) (ab_e A) + (if (gM1 A mf og (ab_e A)).isNone = true then 1 else 0) = _
    rw [show gM1 A mf og (ab_e A) = og from if_pos rfl]
  have hz : (fun i : Nat => if i < 0 then gF A y og i else 0) = fun _ => 0 := by
    funext i
    rw [if_neg (by omega)]
  have go : ∀ W, wfr Z W → CX (wAE A k y (fun _ => 0) (ab_th A y 4)) 34 W t → cx_i W 33 3 = nI s → cx_i W 33 2 = nI (cnN (gM1 A mf og) (ab_e A + 1)) → (∀ i, i < ab_e A + 1 → cx_a W 40 i = or_I (gM1 A mf og i)) → ms_V cd_X4_makeEntry none 0 (ms_Cl (d + 4)) (fW Z t (GC (gE2 A mf k y og s) · t)) 105 [(0, .ref 33), (2, .int (nI y)), (3, .int (or_I og)), (5, .int (nI (ab_e A))), (6, .int 0)] [] (ms_x W t) := by
    intro W w1 w2 w3 w4 w5
    exact k_me105 hk hy he hl h1.w ho hs 4 0 W rfl w1 (by rw [hz]; exact w2) w3 w4 w5
  have h3' : cx_i X 33 2 = nI (cnN mf (ab_e A)) := h3
  have h2' : cx_i X 33 3 = nI s := h2
  cases og with
  | none =>
    refine ms_yes rfl (ms_oI_i xf_33_2 ?_)
    rw [xp_33_2, show cx_i (cx_ua (cx_ub X 34 B) 40 (ab_e A) (or_I none)) 33 2 = cx_i X 33 2 from rfl, h3', show nI (cnN mf (ab_e A)) + 1 = nI (cnN mf (ab_e A) + 1) from ms_p1 1]
    refine go _ (wfr_t hf (wfr_t wfr_b (wfr_t wfr_a wfr_i))) c2 ?_ ?_ i40
    · rw [cx_i_ui (by decide)]
      exact h2'
    · rw [cx_i_self, hcs]
      rfl
  | some g =>
    have hg := ho g rfl
    refine ms_no (nI_m1 (x := g) (by omega)) ?_
    refine go _ (wfr_t hf (wfr_t wfr_b wfr_a)) c2 h2' ?_ i40
    rw [hcs]
    exact h3'
theorem gO_in {og : Option Nat} {q : Nat} (h : og = (thl A y (ab_e A))[q]?) : ∀ g, og = some g → g < ab_e A := by
  intro g hg
  rw [h] at hg
  have := List.mem_of_getElem? hg
  exact List.mem_range.mp (List.mem_filter.mp this).1
theorem k_makeEntry (h : GC (A, mf, s) X t) (hk : k < ab_p A) (hy : y < ab_t A) (he : ab_e A < 120) (hl : (ab_l A k).length < 12) (hs : s < 1000003) : ms_H' (d + 5) 66 [.ref 33, .int (nI k), .int (nI y)] (ms_x X t) (fW X t (GC (gE2 A mf k y (gO A k y s).1 (gO A k y s).2) · t)) := by
  have hwy := h.1.w.1
  have hwp : ab_t A ≤ 8 := hwy.1
  have hp16 : ab_p A ≤ 16 := hwy.2.1
  refine mx_m (fun a b c => m_X4_makeEntry a b ⟨_, xo_33⟩ c) fW_l (b_X4_makeEntry_0 ?_)
  have hle := thl_le (A := A) (y := y) (n := ab_e A)
  unfold gO
  refine ms_ite2 (fun z => ?_) (fun z => ?_)
  · rw [show (0 : Int32) = nI 0 from rfl, ms_nI_eq (by omega) (by omega)] at z
    rw [if_pos z]
    exact k_metail (og := none) h wfr_0 hk hy he hl (fun g hg => by cases hg) hs
  · rw [show (0 : Int32) = nI 0 from rfl, ms_nI_eq (by omega) (by omega)] at z
    rw [if_neg z]
    have h3 : cx_i X 33 3 = nI s := h.2.1
    refine ms_c1_i (k_draw (d := d + 3) (n := 4) h3 hs (by decide) (by decide)) ?_
    have m4 : dr s % 4 < 4 := Nat.mod_lt _ (by decide)
    have hd := dr_lt (s := s)
    have hG : GC (A, mf, dr s) (cx_ui X 33 3 (nI (dr s))) t := GC_dr h
    generalize dr s % 4 = q4 at m4 ⊢
    refine ms_ite2 (fun z2 => ?_) (fun z2 => ?_) <;> rw [show (0 : Int32) = nI 0 from rfl, ms_nI_eq (by omega) (by omega)] at z2
    · rw [if_pos z2]
      exact k_metail (og := none) hG wfr_i hk hy he hl (fun g hg => by cases hg) hd
    · rw [if_neg z2]
      have hG1 : CX A 34 (cx_ui X 33 3 (nI (dr s))) t := hG.1
      refine ms_c1_i (k_countOf (d := d + 1) hG1 (by omega)) ?_
      refine ms_ite2 (fun z3 => ?_) (fun z3 => ?_) <;> rw [show (0 : Int32) = nI 0 from rfl, ms_nle (by omega) (by omega)] at z3
      · rw [if_pos (by omega)]
        exact k_metail (og := none) hG wfr_i hk hy he hl (fun g hg => by cases hg) hd
      · rw [if_neg (by omega)]
        refine ms_c1_i (k_draw (d := d + 3) (s := dr s) (n := (thl A y (ab_e A)).length) cx_i_self hd (by omega) (by omega)) ?_
        have hml : dr (dr s) % (thl A y (ab_e A)).length < (thl A y (ab_e A)).length := Nat.mod_lt _ (by omega)
        have hG2 : GC (A, mf, dr (dr s)) (cx_ui (cx_ui X 33 3 (nI (dr s))) 33 3 (nI (dr (dr s)))) t := GC_dr hG
        refine ms_c1_i (k_pick (d := d + 1) (show CX A 34 (cx_ui (cx_ui X 33 3 (nI (dr s))) 33 3 (nI (dr (dr s)))) t from hG2.1) (by omega) (by omega)) ?_
        exact k_metail hG2 (wfr_t wfr_i wfr_i) hk hy he hl (gO_in rfl) dr_lt
end Wd
