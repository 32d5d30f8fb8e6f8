/-! THE CLASS'S world; written by wip/whole/mdl.py from n_we.txt -/
def tru (A : ab_T) (n : Nat) : Bool := (List.range n).any (fun i => !ab_gh A i)
def wd_r (G : gT) (n : Nat) : Nat := sm (fun e => if ab_or G.1 e 0 = G.2.1 e then 1 else 0) n
def wd_v (G : gT) (w : Nat) : Nat := if w = 0 then ab_e G.1 else if w = 2 then cnN G.2.1 (ab_e G.1) else if w = 3 then ab_ts G.1 0 else wd_r G (ab_e G.1)
def wd_ok (A : ab_T) (q n w : Int32) : Bool := (decide (2 ≤ n) && decide (n ≤ 8)) && (ms_ix 1000001 q && (ms_ix 4 w && tru A (ab_t A)))
def wd_an (A : ab_T) (q n w : Int32) : Int32 := if wd_ok A q n w then nI (wd_v (gWo A q.toNatClampNeg n.toNatClampNeg) w.toNatClampNeg) else -1
def wf2 (X Y : cx_T) : Prop := (∀ c, ¬ (12 ≤ c ∧ c ≤ 23) → c ≠ 33 → c ≠ 40 → ¬ (41 ≤ c ∧ c ≤ 49) → (∀ k, cx_i Y c k = cx_i X c k) ∧ ∀ n, cx_a Y c n = cx_a X c n) ∧ ∀ c, c ≠ 34 → cx_b Y c = cx_b X c
def fW2 (X : cx_T) (t : ms_S) (a : Int32) (r : Option Value) (g' : ms_S) : Prop := ∃ Y, wf2 X Y ∧ g' = ms_x Y t ∧ r = some (.int a)
section We
variable {d b i j k n p o e f u v x y s r c w : Nat} {X Y Z : cx_T} {t : ms_S} {A A0 : ab_T} {K : ms_S → Prop} {mf : Nat → Option Nat} {G : gT} {og : Option Nat}
theorem k_addP (h : CX A 34 X t) (hp : ab_p A < 16) (hy : y < 400) (hc : c < 400) (hd : n < 400) : ∃ B, ms_Cl (d + 1) 17 [.ref 34, .int (nI y), .int (nI c), .int (nI n)] (ms_x X t) (some (.int (nI (ab_p A)))) (ms_x (cx_ub X 34 B) t) ∧ CX (wAP A y c n) 34 (cx_ub X 34 B) t := by
  obtain ⟨⟨r1, r2, r3, r4⟩, r5, r6, r7, r8, r9⟩ := h.2.2.1
  refine ⟨bk_addP (cx_b X 34) (nI y) (nI c) (nI n), ?_, ?_⟩
  · rw [← r2]
    exact xm_34 (X := X) fun h t => cb_addPaper (B := cx_b X 34) (by rw [r2]; exact hp)
  · obtain ⟨_, _, _, o3, _, _, _, o7⟩ := bk_addP_o (B := cx_b X 34) (a := nI y) (b := nI c) (c := nI n)
    exact CX_b h (ab_w_P h.w hp hy hc hd) (RA_P h.2.2.1 h.w) rfl o3 o7
theorem k_begin (h : CX A 6 X t) : CX (wA0 A) 34 (cx_ub (cx_ub X 34 (bk_cp (cx_b X 34) (cx_b X 6))) 34 (bk_sec (bk_spc (bk_cp (cx_b X 34) (cx_b X 6)) 0) 0)) t := by
  obtain ⟨_, hw, hr, hx, hx2⟩ := h
  have e : cx_b (cx_ub (cx_ub X 34 (bk_cp (cx_b X 34) (cx_b X 6))) 34 (bk_sec (bk_spc (bk_cp (cx_b X 34) (cx_b X 6)) 0) 0)) 34 = bk_sec (bk_spc (bk_cp (cx_b X 34) (cx_b X 6)) 0) 0 := cx_b_ub
  refine ⟨Or.inr rfl, ab_w_0 hw, ?_, ?_⟩
  · rw [e]
    exact RA_0 (RA_cp hr hw)
  · rw [e]
    refine ⟨hx, fun i cs hcs => ?_⟩
    have hi : i < (ab_x A).length := (List.getElem?_eq_some_iff.mp hcs).1
    have h20 := hw.1.2.2.2
    obtain ⟨a, h1, h2⟩ := hx2 i cs hcs
    refine ⟨a, ?_, h2⟩
    show (if i < 20 then bk_tx (cx_b X 6) i else _) = some a
    rw [if_pos (by omega)]
    exact h1
theorem gTh_s : gTh G k (y + 1) = if ab_gh (gTh G k y).1 y then gTh G k y else gEn (gTh G k y) k y := rfl
theorem k_make (h : CX A 6 X t) (hT : TO t (cx_b X 6)) (hs : s < 1000003) (hn : n ≤ 8) : ms_H' (d + 6) 64 [.ref 33, .ref 6, .int (nI s), .int (nI n)] (ms_x X t) (fW X t (GC (gWo A s n) · t)) := by
  have hwA := h.w
  have h8 := hwA.1.1
  refine mx_m (fun a b c => m_X4_make a b ⟨_, xo_33⟩ c) fW_l (b_X4_make_0 ?_)
  simp only [xf_33_0, ms_oR_e]
  refine ms_c0_i (cp_34 hT) ?_
  simp only [xf_33_0, ms_oR_e]
  refine ms_c0_i (xm_34 (X := cx_ub X 34 (bk_cp (cx_b X 34) (cx_b X 6))) fun h t => cb_dropPapers) ?_
  rw [xp_33_2, xp_33_3]
  have hC0 := k_begin h
  rw [show cx_b (cx_ub X 34 (bk_cp (cx_b X 34) (cx_b X 6))) 34 = bk_cp (cx_b X 34) (cx_b X 6) from cx_b_ub]
  have hG0 : GC (wA0 A, fun _ => none, s) (cx_ui (cx_ui (cx_ub (cx_ub X 34 (bk_cp (cx_b X 34) (cx_b X 6))) 34 (bk_sec (bk_spc (bk_cp (cx_b X 34) (cx_b X 6)) 0) 0)) 33 2 0) 33 3 (nI s)) t := ⟨hC0, cx_i_self, by rw [cx_i_ui (by decide)]; exact cx_i_self, fun i hi => absurd hi (Nat.not_lt_zero _)⟩
  have hP0 : GP A 0 (wA0 A, fun _ => none, s) := GP_0 hwA hs (fun i g hg => by cases hg)
  suffices H : ∀ r k Y, k + r = n → wfr X Y → GC (gPa (wA0 A, fun _ => none, s) k) Y t → ms_V cd_X4_make none 0 (ms_Cl (d + 5)) (fW X t (GC (gWo A s n) · t)) 28 [(0, .ref 33), (3, .int (nI n)), (4, .int (nI k))] [] (ms_x Y t) from H n 0 _ (by omega) (wfr_t wfr_b (wfr_t wfr_b (wfr_t wfr_i wfr_i))) hG0
  intro r
  induction r with
  | zero =>
    intro k Y hk hf hG
    refine b_X4_make_28 (ms_yes ((ms_nle (by omega) (by omega)).mpr (by omega)) ⟨Y, hf, rfl, rfl, ?_⟩)
    rw [show n = k by omega]
    exact hG
  | succ r ih =>
    intro k Y hk hf hG
    have hP := GP_Pa hP0 k (by omega)
    have H := fun Z => ih (k + 1) Z (by omega)
    rw [show gPa (wA0 A, fun _ => none, s) (k + 1) = gTh (gP1 (gPa (wA0 A, fun _ => none, s) k) k) k (ab_t A) from rfl] at H
    generalize gPa (wA0 A, fun _ => none, s) k = G at hG hP H
    obtain ⟨A1, mf, s1⟩ := G
    have hs1 : s1 < 1000003 := hP.2.2.2.2.2.1
    have hpk : ab_p A1 = k := hP.2.2.1
    have h3 : cx_i Y 33 3 = nI s1 := hG.2.1
    have hC1 : CX A1 34 Y t := hG.1
    have m2 : dr s1 % 2 < 2 := Nat.mod_lt _ (by decide)
    refine b_X4_make_28 (ms_no (fun z => by rw [ms_nle (by omega) (by omega)] at z; omega) ?_)
    simp only [xf_33_0, ms_oR_e]
    refine ms_c1_i (k_draw (d := d + 4) (n := 2) h3 hs1 (by decide) (by decide)) ?_
    obtain ⟨B, c1, c2⟩ := k_addP (d := d + 4) (y := k) (c := dr s1 % 2) (n := 0) (show CX A1 34 (cx_ui Y 33 3 (nI (dr s1))) t from hC1) (by omega) (by omega) (by omega) (by omega)
    refine ms_c1_i c1 ?_
    have hI0 : GI A k 0 (gP1 (A1, mf, s1) k) := GP_1 hP (by omega)
    have hG1 : GC (gP1 (A1, mf, s1) k) (cx_ub (cx_ui Y 33 3 (nI (dr s1))) 34 B) t := by
      refine ⟨c2, ?_, ?_, hG.2.2.2⟩
      · rw [cx_i_ub]
        exact cx_i_self
      · rw [cx_i_ub, cx_i_ui (by decide)]
        exact hG.2.2.1
    generalize gP1 (A1, mf, s1) k = G1 at hI0 hG1 H
    suffices HH : ∀ r y Z, y + r = ab_t A → wfr X Z → GC (gTh G1 k y) Z t → ms_V cd_X4_make none 0 (ms_Cl (d + 5)) (fW X t (GC (gWo A s n) · t)) 53 [(0, .ref 33), (3, .int (nI n)), (4, .int (nI k)), (5, .int (nI y))] [] (ms_x Z t) from HH (ab_t A) 0 _ (by omega) (wfr_t hf (wfr_t wfr_i wfr_b)) hG1
    intro r2
    induction r2 with
    | zero =>
      intro y Z hy hfz hGz
      have hI := GI_Th hI0 (by omega) y (by omega)
      have hCz := hGz.1
      refine b_X4_make_53 (ms_oR_i xf_33_0 (ms_oI_i (k_tc hCz) ?_))
      rw [hI.1.1]
      refine ms_yes ((ms_nle (by omega) (by omega)).mpr (by omega)) ?_
      rw [show nI k + 1 = nI (k + 1) from ms_p1 1]
      refine H Z hfz ?_
      rw [show ab_t A = y by omega]
      exact hGz
    | succ r2 ih2 =>
      intro y Z hy hfz hGz
      have hI := GI_Th hI0 (by omega) y (by omega)
      have HZ := fun W => ih2 (y + 1) W (by omega)
      rw [gTh_s] at HZ
      generalize gTh G1 k y = G2 at hI hGz HZ
      obtain ⟨A2, mf2, s2⟩ := G2
      obtain ⟨⟨i1, i2, i3⟩, i4, i5, i6, i7, i8, i9, i10⟩ := hI
      have i1' : ab_t A2 = ab_t A := i1
      have i5' : ab_p A2 = k + 1 := i5
      have i6' : ab_e A2 ≤ 8 * k + y := i6
      have i7' : (ab_l A2 k).length ≤ y := i7
      have i9' : s2 < 1000003 := i9
      have hCz : CX A2 34 Z t := hGz.1
      have h3z : cx_i Z 33 3 = nI s2 := hGz.2.1
      refine b_X4_make_53 (ms_oR_i xf_33_0 (ms_oI_i (k_tc hCz) ?_))
      rw [i1']
      refine ms_no (fun z => by rw [ms_nle (by omega) (by omega)] at z; omega) ?_
      simp only [xf_33_0, ms_oR_e]
      rw [show nI y + 1 = nI (y + 1) from ms_p1 1]
      refine ms_c1_i (k_isGhost hCz (by omega)) (ms_ifT (fun hg => ?_) (fun hg => ?_))
      · rw [show ab_gh ((A2, mf2, s2) : gT).1 y = false from hg] at HZ
        refine ms_c1_i (k_draw (d := d + 4) (n := 3) h3z i9' (by decide) (by decide)) ?_
        have hGd : GC (A2, mf2, dr s2) (cx_ui Z 33 3 (nI (dr s2))) t := GC_dr hGz
        rw [if_neg (by decide)] at HZ
        unfold gEn at HZ
        have m3 : dr s2 % 3 < 3 := Nat.mod_lt _ (by decide)
        rw [show dr ((A2, mf2, s2) : gT).2.2 = dr s2 from rfl] at HZ
        have hd2 := dr_lt (s := s2)
        generalize dr s2 = s3 at m3 hGd HZ hd2 ⊢
        generalize s3 % 3 = q3 at m3 HZ ⊢
        refine ms_ite2 (fun z => ?_) (fun z => ?_) <;> rw [show (0 : Int32) = nI 0 from rfl, ms_nI_eq (by omega) (by omega)] at z
        · rw [if_pos z] at HZ
          exact HZ _ (wfr_t hfz wfr_i) hGd
        · rw [if_neg z] at HZ
          exact mw_n0 (k_makeEntry (d := d) hGd (by omega) (by omega) (by omega) (by omega) hd2) (fun W fw hW => HZ W (wfr_t hfz (wfr_t wfr_i fw)) hW)
      · rw [show ab_gh ((A2, mf2, s2) : gT).1 y = true from hg, if_pos rfl] at HZ
        exact HZ Z hfz hGz
end We
