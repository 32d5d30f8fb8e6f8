/-! THE MODEL'S call world; written by wip/whole/mdl.py from s_wq.txt -/
def gW (k : Nat) : Bool := gA k || decide (k = 4 ∨ k = 50 ∨ k = 51)
def gQW (h : ms_S) (M : md_T) (t : ms_S) (a : Int32) (r : Option Value) (g' : ms_S) : Prop := ∃ N, mfr M N ∧ g' = ms_m h N t ∧ r = some (.int a)
section Wq
variable {d i j k n p o e f u v x y s r c m w cl : Nat} {h t : ms_S} {M N L : md_T} {A A0 : ab_T} {mf : Nat → Option Nat} {G : gT} {og : Option Nat} {F : Nat → Nat}
theorem s99 (h : ∀ p, p < ab_p A → ab_pa A p 2 = 0) : ab_s A p 99 = ab_s A p 0 := by
  unfold ab_s
  by_cases hp : p < ab_p A
  · rw [h p hp, decide_eq_true (Nat.zero_le 99)]
    rfl
  · rw [decide_eq_false hp]
    rfl
theorem src99 (h : ∀ p, p < ab_p A → ab_pa A p 2 = 0) : ab_src A p 99 = ab_src A p 0 := by
  unfold ab_src
  rw [show (List.range 16).filter (fun o => ab_op A p o && ab_s A o 99) = (List.range 16).filter (fun o => ab_op A p o && ab_s A o 0) from filt_c (fun o _ => by rw [s99 h])]
theorem or99 (h : ∀ p, p < ab_p A → ab_pa A p 2 = 0) : ab_or A e 99 = ab_or A e 0 := by
  unfold ab_or
  rw [src99 h]
theorem ts99 (h : ∀ p, p < ab_p A → ab_pa A p 2 = 0) : ab_ts A 99 = ab_ts A 0 := by
  unfold ab_ts
  refine sm_congr _ (fun p _ => ?_)
  rw [s99 h, src99 h]
theorem gQW_l {a : Int32} : ∀ r g', gQW h M t a r g' → (ms_m h M t).length ≤ g'.length ∧ ms_tot (ms_m h M t) ≤ ms_tot g' := by
  rintro r g' ⟨N, hf, rfl, _⟩
  exact ⟨ms_m_l, ms_m_t⟩
theorem mfr_A (h : md_fr gA M N) : mfr M N := ⟨mr_s h (fun c hc => (Bool.or_eq_false_iff.mp hc).1), fun m _ => by rw [mr_a3 h (by decide)]⟩
theorem n_wpaper (hG : GM G M) (hP : GP A0 k G) (hk : k < 8) : ms_c1 (ms_Cl (d + 4) 249 [.ref h.length, .int 2] (ms_m h M t)) fun r3 g2 => ms_c0 (ms_Cl (d + 4) 161 [.ref h.length, .int (nI k), .int r3, .int 0] g2) fun g4 => ∃ N, g4 = ms_m h N t ∧ mfr M N ∧ GM (gP1 G k) N := by
  obtain ⟨A1, mf, s1⟩ := G
  have hs1 : s1 < 1000003 := hP.2.2.2.2.2.1
  have hpk : ab_p A1 = k := hP.2.2.1
  have w : MX A1 M := hG.1
  have h50 : md_l M 50 = dL s1 := hG.2.1
  refine ms_c1_i (n_draw (d := d + 3) (n := 2) h50 hs1 (by decide) (by decide)) ?_
  have m2 : dr s1 % 2 < 2 := Nat.mod_lt _ (by decide)
  unfold gP1
  rw [show ((A1, mf, s1) : gT).1 = A1 from rfl, show ((A1, mf, s1) : gT).2.1 = mf from rfl, show ((A1, mf, s1) : gT).2.2 = s1 from rfl]
  have w2 : MX A1 (md_ul M 50 (dL (dr s1))) := w
  have f2 : mfr M (md_ul M 50 (dL (dr s1))) := mfr_l
  have l2 : md_l (md_ul M 50 (dL (dr s1))) 50 = dL (dr s1) := md_l_at
  have i2 : ∀ i, i < ab_e A1 → md_a (md_ul M 50 (dL (dr s1))) 51 i = or_I (mf i) := hG.2.2
  generalize md_ul M 50 (dL (dr s1)) = N2 at w2 f2 l2 i2 ⊢
  generalize dr s1 = s2 at m2 l2 ⊢
  generalize s2 % 2 = q2 at m2 ⊢
  refine ms_c0_i (c9_addPaper (d := d + 2) (n := ab_p A1) w2.n1 (by omega)) ?_
  refine ⟨_, rfl, mfr_t f2 (mfr_P (by omega)), ?_, l2, fun i hi => ?_⟩
  · have := MX_P (y := k) (c := q2) (n := 0) w2 (by omega) (by omega) (by omega) (by omega)
    exact this
  · unfold md_addP
    rw [md_a_fun (by decide), md_a_fun (by decide), md_a_fun (by decide), md_a_fun (by decide)]
    exact i2 i hi
theorem ms_c1_m {K K2 : Int32 → ms_S → Prop} {C : Option Value → ms_S → Prop} (h : ms_c1 C K) (hk : ∀ v g, K v g → K2 v g) : ms_c1 C K2 := by
  obtain ⟨v, g, h1, h2⟩ := h
  exact ⟨v, g, h1, hk v g h2⟩
theorem ms_c0_m {K K2 : ms_S → Prop} {C : Option Value → ms_S → Prop} (h : ms_c0 C K) (hk : ∀ g, K g → K2 g) : ms_c0 C K2 := by
  obtain ⟨g, h1, h2⟩ := h
  exact ⟨g, h1, hk g h2⟩
theorem n_worldOf (w0 : MX A M) (hs : s < 1000003) (hn : n ≤ 8) (hw4 : u < 4) : ms_H' (d + 11) 252 [.ref h.length, .int (nI s), .int (nI n), .int (nI u)] (ms_m h M t) (gQW h M t (nI (wd_v (gWo A s n) u))) := by
  have hwA := w0.1
  have h8 := hwA.1.1
  refine mx_m (fun a b c => m_X9_worldOf a b ⟨_, ms_m_0⟩ c) gQW_l (b_X9_worldOf_0 ?_)
  simp only [ms_oR_e, ms_oI_e, ms_oL_e, mm_f3, mm_w3, mm_f50, mm_p50, mm_w3]
  refine ⟨ms_in (k := 1) (by decide) (by decide), ms_in (k := 2) (by decide) (by decide), ?_⟩
  rw [show (1 : Int32).toNatClampNeg = 1 by decide, show (2 : Int32).toNatClampNeg = 2 by decide]
  have hf0 : mfr M (md_ul (md_ua (md_ua M 3 1 0) 3 2 0) 50 (Int32.toInt64 (nI s))) := mfr_t (mfr_t (mfr_3 (by decide)) (mfr_3 (by decide))) mfr_l
  have hG0 : GM (wA0 A, fun _ => none, s) (md_ul (md_ua (md_ua M 3 1 0) 3 2 0) 50 (Int32.toInt64 (nI s))) := by
    refine ⟨⟨ab_w_0 hwA, RM_0 (r := md_a M 3) w0.2 ?_ md_a_at (fun m h1 h2 => ?_)⟩, md_l_at, fun i hi => absurd hi (Nat.not_lt_zero _)⟩
    · show md_a (md_ua (md_ua M 3 1 0) 3 2 0) 3 1 = 0
      rw [md_a_ne (by decide), md_a_at]
    · show md_a (md_ua (md_ua M 3 1 0) 3 2 0) 3 m = _
      rw [md_a_ne h2, md_a_ne h1]
  have hP0 : GP A 0 (wA0 A, fun _ => none, s) := GP_0 hwA hs (fun i g hg => by cases hg)
  have hW : gWo A s n = gPa (wA0 A, fun _ => none, s) n := rfl
  have hPn : GP A n (gWo A s n) := GP_Wo hwA hs hn
  generalize md_ul (md_ua (md_ua M 3 1 0) 3 2 0) 50 (Int32.toInt64 (nI s)) = N0 at hf0 hG0 ⊢
  generalize ((wA0 A, fun _ => none, s) : gT) = G0 at hG0 hP0 hW
  generalize hQ : gQW h M t (nI (wd_v (gWo A s n) u)) = Q
  -- the end
  have last : ∀ r e N v5 v4, e + r = ab_e (gWo A s n).1 → mfr M N → GM (gWo A s n) N → MT2 (gWo A s n).1 99 N → v4 = nI (wd_r (gWo A s n) e) → v5 = nI (cnN (gWo A s n).2.1 e) → ms_V cd_X9_worldOf none 1 (ms_Cl (d + 10)) Q 99 [(0, .ref h.length), (3, .int (nI u)), (4, .int v4), (5, .int v5), (6, .int (nI e))] [] (ms_m h N t) := by
    generalize gWo A s n = G at hPn hQ
    obtain ⟨A1, mf, s1⟩ := G
    have hpa : ∀ p, p < ab_p A1 → ab_pa A1 p 2 = 0 := hPn.2.2.2.2.1
    have hw1 : ab_w A1 := hPn.2.1
    have hmf : ∀ i g, mf i = some g → g < 120 := hPn.2.2.2.2.2.2
    have he64 : ab_e A1 ≤ 8 * n := hPn.2.2.2.1
    intro r
    induction r with
    | zero =>
      intro e N v5 v4 he hf hG hM e4 e5
      have he' : e + 0 = ab_e A1 := he
      have w1 : MX A1 N := hG.1
      refine b_X9_worldOf_99 (ms_oR_i mm_f3 (n_ec w1 (ms_yes ((ms_nle (by omega) (by omega)).mpr (by omega)) ?_)))
      rw [← hQ]
      unfold wd_v
      refine ms_ite2 (fun z => ?_) (fun z => ?_) <;> rw [show (0 : Int32) = nI 0 from rfl, ms_nI_eq (by omega) (by omega)] at z
      · rw [if_pos z]
        exact ms_oR_i mm_f3 (n_ec w1 ⟨N, hf, rfl, rfl⟩)
      rw [if_neg z]
      refine ms_ite2 (fun z1 => ?_) (fun z1 => ?_) <;> rw [show (1 : Int32) = nI 1 from rfl, ms_nI_eq (by omega) (by omega)] at z1
      · rw [if_neg (by omega), if_neg (by omega)]
        refine ⟨N, hf, rfl, ?_⟩
        rw [e4, show e = ab_e A1 by omega]
      refine ms_ite2 (fun z2 => ?_) (fun z2 => ?_) <;> rw [show (2 : Int32) = nI 2 from rfl, ms_nI_eq (by omega) (by omega)] at z2
      · rw [if_pos z2]
        refine ⟨N, hf, rfl, ?_⟩
        rw [e5, show e = ab_e A1 by omega]
      · rw [if_neg z2, if_pos (by omega)]
        refine ms_oI_i mm_f41 ⟨N, hf, rfl, ?_⟩
        rw [hM.2, ts99 hpa]
    | succ r ih =>
      intro e N v5 v4 he hf hG hM e4 e5
      have he' : e + (r + 1) = ab_e A1 := he
      have w1 : MX A1 N := hG.1
      have hp := (hw1.2.2.2.2.1 e (by omega)).1
      have hes : ab_es A1 e 99 = true := by
        show ab_s A1 (ab_en A1 e 0) 99 = true
        unfold ab_s
        rw [decide_eq_true hp, hpa _ hp]
        rfl
      have h40 := hM.1 e (show e < ab_e A1 by omega)
      have h40' : md_a N 40 e = or_I (ab_or A1 e 0) := by rw [h40, or99 hpa, if_pos hes]
      have h51 : md_a N 51 e = or_I (mf e) := hG.2.2 e (show e < ab_e A1 by omega)
      have inj : or_I (ab_or A1 e 0) = or_I (mf e) ↔ ab_or A1 e 0 = mf e := or_I_inj (fun g hg => by have := (ab_or_in (by omega) hg).1; omega) (fun g hg => by have := hmf e g hg; omega)
      have H := fun v5 v4 => ih (e + 1) N v5 v4 (show e + 1 + r = ab_e A1 by omega) hf hG hM
      rw [show wd_r (A1, mf, s1) (e + 1) = wd_r (A1, mf, s1) e + (if ab_or A1 e 0 = mf e then 1 else 0) from rfl, show cnN ((A1, mf, s1) : gT).2.1 (e + 1) = cnN mf e + (if (mf e).isNone = true then 1 else 0) from rfl] at H
      have e5' : v5 = nI (cnN mf e) := e5
      refine b_X9_worldOf_99 (ms_oR_i mm_f3 (n_ec w1 (ms_no (fun z => by rw [ms_nle (by omega) (by omega)] at z; omega) ?_)))
      simp only [ms_oR_e, ms_oI_e, ms_oL_e, mm_f40, mm_r40, mm_w40, mm_f51, mm_r51, mm_w51]
      refine ⟨ms_in (by omega) (by decide), ms_in (by omega) (by decide), ?_⟩
      rw [ms_nc (by omega), h40', h51, show nI e + 1 = nI (e + 1) from ms_p1 1, e4, e5']
      have lk : ∀ v4, v4 = nI (wd_r (A1, mf, s1) e + (if ab_or A1 e 0 = mf e then 1 else 0)) → (if or_I (mf e) = -1 then ms_V cd_X9_worldOf none 1 (ms_Cl (d + 10)) Q 99 [(0, .ref h.length), (3, .int (nI u)), (4, .int v4), (5, .int (nI (cnN mf e) + 1)), (6, .int (nI (e + 1)))] [] (ms_m h N t) else ms_V cd_X9_worldOf none 1 (ms_Cl (d + 10)) Q 99 [(0, .ref h.length), (3, .int (nI u)), (4, .int v4), (5, .int (nI (cnN mf e) + 0)), (6, .int (nI (e + 1)))] [] (ms_m h N t)) := by
        intro v4 hv4
        cases hm : mf e with
        | none =>
          rw [hm] at H hv4
          refine ms_yes rfl (H _ _ hv4 ?_)
          exact ms_p1 1
        | some g =>
          have hg := hmf e g hm
          rw [hm] at H hv4
          refine ms_no (nI_m1 (x := g) (by omega)) (H _ _ hv4 ?_)
          exact ms_p1 0
      refine ms_ite2 (fun z4 => ?_) (fun z4 => ?_)
      · refine ⟨ms_in (by omega) (by decide), lk _ ?_⟩
        rw [if_pos (inj.mp z4)]
        exact ms_p1 1
      · refine ⟨ms_in (by omega) (by decide), lk _ ?_⟩
        rw [if_neg (fun z5 => z4 (inj.mpr z5))]
        exact ms_p1 0
  -- the papers
  suffices H : ∀ r k N, k + r = n → mfr M N → GM (gPa G0 k) N → ms_V cd_X9_worldOf none 1 (ms_Cl (d + 10)) Q 23 [(0, .ref h.length), (2, .int (nI n)), (3, .int (nI u)), (4, .int (nI k))] [] (ms_m h N t) from H n 0 N0 (by omega) hf0 hG0
  intro r
  induction r with
  | zero =>
    intro k N hk hf hG
    have e : k = n := by omega
    subst e
    rw [← hW] at hG
    refine b_X9_worldOf_23 (ms_yes ((ms_nle (by omega) (by omega)).mpr (Nat.le_refl _)) ?_)
    refine my_n0 (n_findTree (d := d) (day := 99) hG.1 (by decide)) (fun N1 f1 hM => ?_)
    refine last (ab_e (gWo A s k).1) 0 N1 _ _ (Nat.zero_add _) (mfr_t hf (mfr_A f1)) ⟨hG.1.fr f1 (by decide), ?_, fun i hi => ?_⟩ hM rfl rfl
    · rw [(f1 50 (by decide)).2.1]
      exact hG.2.1
    · rw [mr_a3 f1 (by decide)]
      exact hG.2.2 i hi
  | succ r ih =>
    intro k N hk hf hG
    have hP := GP_Pa hP0 k (by omega)
    have H := fun Z => ih (k + 1) Z (by omega)
    have hab : ab_t G0.1 = ab_t A := hP0.1.1
    rw [show gPa G0 (k + 1) = gTh (gP1 (gPa G0 k) k) k (ab_t G0.1) from rfl, hab] at H
    generalize gPa G0 k = G at hG hP H
    refine b_X9_worldOf_23 (ms_no (fun z => by rw [ms_nle (by omega) (by omega)] at z; omega) ?_)
    refine ms_c1_m (n_wpaper (d := d + 6) hG hP (by omega)) (fun v g hx => ms_c0_m hx (fun g2 hx2 => ?_))
    obtain ⟨N1, rfl, f1, hG1⟩ := hx2
    have hI0 : GI A k 0 (gP1 G k) := GP_1 hP (by omega)
    generalize gP1 G k = G1 at hI0 hG1 H
    suffices HH : ∀ r y N, y + r = ab_t A → mfr M N → GM (gTh G1 k y) N → ms_V cd_X9_worldOf none 1 (ms_Cl (d + 10)) Q 44 [(0, .ref h.length), (2, .int (nI n)), (3, .int (nI u)), (4, .int (nI k)), (5, .int (nI y))] [] (ms_m h N t) from HH (ab_t A) 0 N1 (by omega) (mfr_t hf f1) hG1
    intro r2
    induction r2 with
    | zero =>
      intro y N hy hfz hGz
      have hI := GI_Th hI0 (by omega) y (by omega)
      have n0 : md_a N 3 0 = nI (ab_t A) := by
        rw [← hI.1.1]
        exact hGz.1.n0
      refine b_X9_worldOf_44 (ms_oR_i mm_f3 (n_rd (k := 0) (by decide) n0 (ms_yes ((ms_nle (by omega) (by omega)).mpr (by omega)) ?_)))
      rw [show nI k + 1 = nI (k + 1) from ms_p1 1]
      refine H N hfz ?_
      rw [show ab_t A = y by omega]
      exact hGz
    | succ r2 ih2 =>
      intro y N hy hfz hGz
      have hI := GI_Th hI0 (by omega) y (by omega)
      have HZ := fun W => ih2 (y + 1) W (by omega)
      rw [gTh_s] at HZ
      generalize gTh G1 k y = G2 at hI hGz HZ
      have n0 : md_a N 3 0 = nI (ab_t A) := by
        rw [← hI.1.1]
        exact hGz.1.n0
      have hy2 : y < ab_t G2.1 := by rw [hI.1.1]; omega
      refine b_X9_worldOf_44 (ms_oR_i mm_f3 (n_rd (k := 0) (by decide) n0 (ms_no (fun z => by rw [ms_nle (by omega) (by omega)] at z; omega) ?_)))
      rw [show nI y + 1 = nI (y + 1) from ms_p1 1]
      refine ms_c1_i (n_isGhost hGz.1 hy2) (ms_ifT (fun hg => ?_) (fun hg => ?_))
      · rw [hg, if_neg (by decide)] at HZ
        exact mw_m0 (n_makeEntry (d := d + 6) hGz hI (by omega) (by omega)) (fun W fw hW => HZ W (mfr_t hfz fw) hW)
      · rw [hg, if_pos rfl] at HZ
        exact HZ N hfz hGz
end Wq
