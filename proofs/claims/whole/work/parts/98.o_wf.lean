/-! THE CLASS'S call world; written by wip/whole/mdl.py from o_wf.txt -/
section Wf
variable {d b i j k n p o e f u v x y s r c w : Nat} {X Y Z : cx_T} {t : ms_S} {A A0 : ab_T} {K : ms_S → Prop} {mf : Nat → Option Nat} {G : gT} {og : Option Nat}
theorem LO_41 : LO 41 34 := Or.inr ⟨rfl, rfl⟩
theorem k_hasTrue (h : CX A 6 X t) : ms_Cl (d + 3) 7 [.ref 6] (ms_x X t) (some (.int (ms_bi (tru A (ab_t A))))) (ms_x X t) := by
  have hw := h.w.1.1
  refine m_X0_hasTrueThing (Nat.le_refl _) (Nat.le_refl _) ⟨_, h.bk.1⟩ (b_X0_hasTrueThing_0 (Q := ms_lf _ _) ?_)
  suffices H : ∀ r i, i + r = ab_t A → tru A i = false → ms_V cd_X0_hasTrueThing none 4 (ms_Cl (d + 2)) (ms_lf (some (.int (ms_bi (tru A (ab_t A))))) (ms_x X t)) 2 [(0, .ref 6), (1, .int (nI i))] [] (ms_x X t) from H (ab_t A) 0 (by omega) rfl
  intro r
  induction r with
  | zero =>
    intro i hi hg
    refine b_X0_hasTrueThing_2 (ms_oI_i (k_tc h) (ms_yes ((ms_nle (by omega) (by omega)).mpr (by omega)) ?_))
    rw [show ab_t A = i by omega, hg]
    exact ⟨(by first | exact Or.inr rfl | exact Or.inl rfl | exact Or.inl trivial | exact Or.inr trivial | trivial), rfl, rfl⟩
  | succ r ih =>
    intro i hi hg
    refine b_X0_hasTrueThing_2 (ms_oI_i (k_tc h) (ms_no (fun z => by rw [ms_nle (by omega) (by omega)] at z; omega) (ms_c1_i (k_isGhost h (by omega)) ?_)))
    have hs : tru A (i + 1) = (tru A i || !ab_gh A i) := any_s
    refine ms_ifT (fun hz => ?_) (fun hz => ?_)
    · have : tru A (ab_t A) = true := by
        unfold tru
        rw [List.any_eq_true]
        exact ⟨i, List.mem_range.mpr (by omega), by rw [hz]; rfl⟩
      rw [this]
      exact ⟨(by first | exact Or.inr rfl | exact Or.inl rfl | exact Or.inl trivial | exact Or.inr trivial | trivial), rfl, rfl⟩
    · rw [show nI i + 1 = nI (i + 1) from ms_p1 1]
      refine ih (i + 1) (by omega) ?_
      rw [hs, hg, hz]
      rfl
theorem LC_f2 (h : ab_p A ≤ 16) : LC A 41 (co_forget2 X) := by
  intro p hp
  refine ⟨Or.inl ?_, Or.inl ?_, Or.inl ?_⟩
  · show cx_a (co_forget2 X) 42 p = -1
    unfold co_forget2
    rw [cx_a_sn (by decide), cx_a_sn (by decide), cx_a_sa]
    exact if_pos (by omega)
  · show cx_a (co_forget2 X) 43 p = -1
    unfold co_forget2
    rw [cx_a_sn (by decide), cx_a_sa]
    exact if_pos (by omega)
  · show cx_a (co_forget2 X) 44 p = -1
    unfold co_forget2
    rw [cx_a_sa]
    exact if_pos (by omega)
theorem or_I_inj {a b : Option Nat} (ha : ∀ g, a = some g → g < 2 ^ 31) (hb : ∀ g, b = some g → g < 2 ^ 31) : or_I a = or_I b ↔ a = b := by
  constructor
  · intro h
    cases a with
    | none =>
      cases b with
      | none => rfl
      | some g =>
        have hg := hb g rfl
        have := ms_nI_0 (n := g) hg
        rw [show nI g = -1 from h.symm] at this
        exact absurd this (by decide)
    | some g =>
      have hg := ha g rfl
      cases b with
      | none =>
        have := ms_nI_0 (n := g) hg
        rw [show nI g = -1 from h] at this
        exact absurd this (by decide)
      | some g2 =>
        have h2 : nI g = nI g2 := h
        rw [ms_nI_eq hg (hb g2 rfl)] at h2
        rw [h2]
  · intro h
    rw [h]
theorem k_mOrigin (h : GC G X t) (he : e < ab_e G.1) : ms_Cl (d + 2) 65 [.ref 33, .int (nI e)] (ms_x X t) (some (.int (or_I (G.2.1 e)))) (ms_x X t) := by
  have hw := h.1.w.1.2.2.1
  refine m_X4_originOf (Nat.le_refl _) (Nat.le_refl _) ⟨_, xo_33⟩ (b_X4_originOf_0 (Q := ms_lf _ _) ?_)
  simp only [xf_33_0, ms_oR_e]
  refine ms_c1_i (k_hasEntry h.1 (by omega)) ?_
  rw [decide_eq_true he]
  refine ms_no (by decide) ?_
  simp only [xf_33_1, ms_oR_e, xr_40]
  refine ⟨ms_in (by omega) (by decide), ?_⟩
  rw [ms_nc (by omega), h.2.2.2 e he]
  exact ⟨rfl, rfl⟩
theorem wf2_w (h : wfr X Y) : wf2 X Y := ⟨fun c _ h2 h3 _ => h.1 c h2 h3, h.2.2⟩
theorem wf2_t (h : wf2 X Y) (k : wf2 Y Z) : wf2 X Z := ⟨fun c h1 h2 h3 h4 => ⟨fun n => ((k.1 c h1 h2 h3 h4).1 n).trans ((h.1 c h1 h2 h3 h4).1 n), fun n => ((k.1 c h1 h2 h3 h4).2 n).trans ((h.1 c h1 h2 h3 h4).2 n)⟩, fun c hc => (k.2 c hc).trans (h.2 c hc)⟩
theorem wf2_0 : wf2 X X := ⟨fun _ _ _ _ _ => ⟨fun _ => rfl, fun _ => rfl⟩, fun _ _ => rfl⟩
theorem fW2_l {a : Int32} : ∀ r g', fW2 X t a r g' → (ms_x X t).length ≤ g'.length ∧ ms_tot (ms_x X t) ≤ ms_tot g' := by
  rintro r g' ⟨Y, hf, rfl, _⟩
  exact ⟨ms_x_l, ms_x_t⟩
theorem wf2_f : wf2 X (co_forget2 X) := ⟨fun c h1 h2 h3 h4 => ⟨fun _ => rfl, fun n => by unfold co_forget2; rw [cx_a_sn (by omega), cx_a_sn (by omega), cx_a_sn (by omega)]⟩, fun _ _ => rfl⟩
theorem wf2_A (h : cx_fr (fA 41) X Y) : wf2 X Y := ⟨fun c h1 h2 h3 h4 => h.1 c (by
  unfold fA fC
  rw [decide_eq_false (by omega), decide_eq_false (by omega)]
  rfl), fun c _ => by rw [h.2.2]⟩
theorem GC_fr {S : Nat → Bool} (h : GC G X t) (f : cx_fr S X Y) (h33 : S 33 = false) (h40 : S 40 = false) : GC G Y t := by
  refine ⟨h.1.fr f, ?_, ?_, fun i hi => ?_⟩
  · rw [(f.1 33 h33).1]; exact h.2.1
  · rw [(f.1 33 h33).1]; exact h.2.2.1
  · rw [(f.1 40 h40).2]; exact h.2.2.2 i hi
theorem k_wbody {q m u : Int32} (h : CX A 6 X t) (hT : TO t (cx_b X 6)) (hs : s < 1000003) (hn : n ≤ 8) (hw4 : w < 4) : ms_c0 (ms_Cl (d + 8) 64 [.ref 33, .ref 6, .int (nI s), .int (nI n)] (ms_x X t)) fun g10 => if nI w = 0 then (ms_oR (ms_fldR g10 0 8 6) fun x11 => ms_oR (ms_fldR g10 x11 4 0) fun x12 => ms_oI (ms_fldI g10 x12 0 7) fun x13 => fW2 X t (nI (wd_v (gWo A s n) w)) (some (.int x13)) g10) else (if nI w = 2 then (ms_oR (ms_fldR g10 0 8 6) fun x14 => ms_oI (ms_fldI g10 x14 4 2) fun x15 => fW2 X t (nI (wd_v (gWo A s n) w)) (some (.int x15)) g10) else (ms_oR (ms_fldR g10 0 8 7) fun x16 => ms_c0 (ms_Cl (d + 8) 51 [.ref x16] g10) fun g17 => ms_oR (ms_fldR g17 0 8 7) fun x18 => ms_c0 (ms_Cl (d + 8) 54 [.ref x18, .int 0, .int (nI n), .int 0] g17) fun g19 => if nI w = 3 then (ms_oR (ms_fldR g19 0 8 7) fun x20 => ms_c1 (ms_Cl (d + 8) 58 [.ref x20, .int 0] g19) fun r22 g21 => fW2 X t (nI (wd_v (gWo A s n) w)) (some (.int r22)) g21) else (ms_V cd_X8_world none 1 (ms_Cl (d + 8)) (fW2 X t (nI (wd_v (gWo A s n) w))) 131 [(0, .ref 0), (5, .int 0), (6, .int 0)] [] g19))) := by
  refine mw_n0 (k_make (d := d + 2) h hT hs hn) (fun Y fy hG => ?_)
  have hP := GP_Wo h.w hs hn
  generalize gWo A s n = G at hP hG ⊢
  obtain ⟨A1, mf, s1⟩ := G
  have hC : CX A1 34 Y t := hG.1
  have hw1 := hC.w
  have hw120 := hw1.1.2.2.1
  have hp1 : ab_p A1 = n := hP.2.2.1
  have hmf : ∀ i g, mf i = some g → g < 120 := hP.2.2.2.2.2.2
  have fy2 : wf2 X Y := wf2_w fy
  unfold wd_v
  refine ms_ite2 (fun z => ?_) (fun z => ?_) <;> rw [show (0 : Int32) = nI 0 from rfl, ms_nI_eq (by omega) (by omega)] at z
  · rw [if_pos z]
    simp only [xf_0_6, xf_33_0, ms_oR_e]
    exact ms_oI_i (k_ec hC) ⟨Y, fy2, rfl, rfl⟩
  rw [if_neg z]
  refine ms_ite2 (fun z2 => ?_) (fun z2 => ?_) <;> rw [show (2 : Int32) = nI 2 from rfl, ms_nI_eq (by omega) (by omega)] at z2
  · rw [if_pos z2]
    simp only [xf_0_6, ms_oR_e]
    refine ms_oI_i xf_33_2 ⟨Y, fy2, rfl, ?_⟩
    rw [hG.2.2.1]
  rw [if_neg z2]
  simp only [xf_0_7, ms_oR_e]
  refine ms_c0_i c8_forget2 ?_
  simp only [xf_0_7, ms_oR_e]
  have hC2 : CX A1 34 (co_forget2 Y) t := hC
  have hG2 : GC (A1, mf, s1) (co_forget2 Y) t := by
    refine ⟨hC2, hG.2.1, hG.2.2.1, fun i hi => ?_⟩
    unfold co_forget2
    rw [cx_a_sn (by decide), cx_a_sn (by decide), cx_a_sn (by decide)]
    exact hG.2.2.2 i hi
  refine mx_n0 (k_settle (d := d + 1) (day := 0) (i := 0) (s := n) hC2 LO_41 (LC_f2 (by omega)) (Nat.zero_le _) (by omega) (by decide)) (fun Z fz ⟨hc, hse⟩ => ?_)
  have hCZ := hC2.fr fz
  have hGZ : GC (A1, mf, s1) Z t := GC_fr hG2 fz (by decide) (by decide)
  have hfZ : wf2 X Z := wf2_t fy2 (wf2_t wf2_f (wf2_A fz))
  have hSE : ∀ p, p < ab_p A1 → ab_s A1 p 0 = true → SE A1 41 Z p (sbits A1 p 0) := fun p hp hs => hse p (Nat.zero_le _) (by omega) hs
  refine ms_ite2 (fun z3 => ?_) (fun z3 => ?_) <;> rw [show (3 : Int32) = nI 3 from rfl, ms_nI_eq (by omega) (by omega)] at z3
  · rw [if_pos z3]
    simp only [xf_0_7, ms_oR_e]
    exact ms_c1_i (k_sumOfAll (d := d + 4) (day := 0) hCZ LO_41 (by decide) (fun p hp hs => by have := (hSE p hp hs).2.1; rw [sb_sl] at this; exact this)) ⟨Z, hfZ, rfl, rfl⟩
  rw [if_neg z3]
  have hO := SE_or hSE hw1
  have hall : ∀ e, e < ab_e A1 → ab_es A1 e 0 = true := by
    intro e he
    have hp := (hw1.2.2.2.2.1 e he).1
    have h2 : ab_pa A1 (ab_en A1 e 0) 2 = 0 := hP.2.2.2.2.1 _ hp
    show ab_s A1 (ab_en A1 e 0) 0 = true
    unfold ab_s
    rw [decide_eq_true hp, h2]
    rfl
  suffices H : ∀ r e, e + r = ab_e A1 → ms_V cd_X8_world none 1 (ms_Cl (d + 8)) (fW2 X t (nI (wd_r (A1, mf, s1) (ab_e A1)))) 131 [(0, .ref 0), (5, .int (nI (wd_r (A1, mf, s1) e))), (6, .int (nI e))] [] (ms_x Z t) from H (ab_e A1) 0 (by omega)
  intro r
  induction r with
  | zero =>
    intro e he
    refine b_X8_world_131 ?_
    simp only [xf_0_6, xf_33_0, ms_oR_e]
    refine ms_oI_i (k_ec hCZ) (ms_yes ((ms_nle (by omega) (by omega)).mpr (by omega)) ⟨Z, hfZ, rfl, ?_⟩)
    rw [show ab_e A1 = e by omega]
  | succ r ih =>
    intro e he
    have H := ih (e + 1) (by omega)
    rw [show wd_r (A1, mf, s1) (e + 1) = wd_r (A1, mf, s1) e + (if ab_or A1 e 0 = mf e then 1 else 0) from rfl] at H
    refine b_X8_world_131 ?_
    simp only [xf_0_6, xf_33_0, ms_oR_e]
    refine ms_oI_i (k_ec hCZ) (ms_no (fun z => by rw [ms_nle (by omega) (by omega)] at z; omega) ?_)
    simp only [xf_0_7, ms_oR_e]
    refine ms_c1_i (k_originOf (d := d + 6) hCZ LO_41 (by omega)) ?_
    simp only [xf_0_6, ms_oR_e]
    refine ms_c1_i (k_mOrigin (d := d + 6) (G := (A1, mf, s1)) hGZ (show e < ab_e A1 by omega)) ?_
    rw [hO e (by omega) (hall e (by omega)), show nI e + 1 = nI (e + 1) from ms_p1 1, show nI (wd_r (A1, mf, s1) e) + 1 = nI (wd_r (A1, mf, s1) e + 1) from ms_p1 1]
    have inj : or_I (ab_or A1 e 0) = or_I (mf e) ↔ ab_or A1 e 0 = mf e := or_I_inj (fun g hg => by have := (ab_or_in (by omega) hg).1; omega) (fun g hg => by have := hmf e g hg; omega)
    refine ms_ite2 (fun z4 => ?_) (fun z4 => ?_)
    · have z5 := inj.mp z4
      rw [if_pos z5] at H
      exact H
    · rw [if_neg (fun z5 => z4 (inj.mpr z5))] at H
      exact H
theorem k_world {q m u : Int32} (h : CX A 6 X t) (hT : TO t (cx_b X 6)) : ms_H' (d + 9) 125 [.ref 0, .int q, .int m, .int u] (ms_x X t) (fW2 X t (wd_an A q m u)) := by
  refine mx_m (fun a b c => m_X8_world a b ⟨_, xo_0⟩ c) fW2_l (b_X8_world_0 ?_)
  have no : fW2 X t (-1) (some (.int (-1))) (ms_x X t) := ⟨X, wf2_0, rfl, rfl⟩
  have bad : wd_ok A q m u = false → ms_V cd_X8_world none 1 (ms_Cl (d + 8)) (fW2 X t (wd_an A q m u)) 25 [(0, .ref 0), (1, .int q), (2, .int m), (3, .int u)] [] (ms_x X t) := by
    intro hb
    unfold wd_an
    rw [hb]
    exact b_X8_world_25 (ms_yes rfl no)
  refine ms_ite2 (fun z1 => ?_) (fun z1 => ?_)
  · refine bad ?_
    unfold wd_ok
    rw [decide_eq_false (Int32.not_le.mpr z1)]
    rfl
  refine ms_ite2 (fun z2 => ?_) (fun z2 => ?_)
  · refine bad ?_
    unfold wd_ok
    rw [decide_eq_false (p := m ≤ 8) (Int32.not_le.mpr z2), Bool.and_false]
    rfl
  have e12 : (decide (2 ≤ m) && decide (m ≤ 8)) = true := by rw [decide_eq_true (Int32.not_lt.mp z1), decide_eq_true (Int32.not_lt.mp z2)]; rfl
  refine ms_c1_i (k_within 1000000 (by decide)) (ms_ifT (fun hq => ?_) (fun hq => ?_))
  · refine bad ?_
    unfold wd_ok
    rw [hq, Bool.false_and, Bool.and_false]
  unfold wd_an wd_ok
  rw [e12, hq, Bool.true_and, Bool.true_and]
  refine ms_no (by decide) (ms_c1_i (k_within 3 (by decide)) (ms_ifT (fun hu => ?_) (fun hu => ?_)))
  · rw [hu]
    exact no
  rw [hu, Bool.true_and]
  simp only [xf_0_2, ms_oR_e]
  refine ms_c1_i (k_hasTrue h) (ms_ifT (fun ht => ?_) (fun ht => ?_))
  · rw [ht]
    exact no
  rw [ht, if_pos rfl]
  obtain ⟨s, hs, rfl, e1, _⟩ := ms_ix_k hq
  obtain ⟨w, hw, rfl, e2, _⟩ := ms_ix_k hu
  obtain ⟨n, hn, rfl⟩ : ∃ n, n ≤ 8 ∧ m = nI n := by
    have h2 := Int32.le_iff_toInt_le.mp (Int32.not_lt.mp z1)
    have h8 := Int32.le_iff_toInt_le.mp (Int32.not_lt.mp z2)
    rw [show (2 : Int32).toInt = 2 by decide] at h2
    rw [show (8 : Int32).toInt = 8 by decide] at h8
    refine ⟨m.toInt.toNat, by omega, ?_⟩
    apply Int32.toInt_inj.mp
    rw [nI_toInt (by omega)]
    omega
  rw [e1, e2, ms_nc (by omega)]
  simp only [xf_0_6, xf_0_2, ms_oR_e]
  exact k_wbody (q := 0) (m := 0) (u := 0) h hT (by omega) hn (by omega)
end Wf
