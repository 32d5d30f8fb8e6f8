/-! THE MODEL'S lookers; written by wip/whole/mdl.py from g_lko.txt -/
def TLx (A : ab_T) (day p e k : Nat) : Prop := TL A day p k (sm (ab_lp A day) p + e)
def PLx (A : ab_T) (p : Nat) (S : List Nat) (e k : Nat) : Prop := PL A p S k ((lb A p S).1 + e)
def cvR (R1 R2 : Nat → Nat → Prop) (k j e n : Nat) : Prop := ∃ a b, a + b = e ∧ (b < k ∨ (b = k ∧ a < j)) ∧ ∃ k1 k2, R1 a k1 ∧ R2 b k2 ∧ n = k1 + k2
section Lko
variable {d b i j k n p o e f u v x y s r c day m D : Nat} {h t : ms_S} {M N L : md_T} {S' S2 : Nat → Bool} {A : ab_T} {S : List Nat} {q w : Int32} {R1 R2 : Nat → Nat → Prop}
theorem PX_end : PX A p S (2 ^ S.length) e k ↔ PLx A p S e k := ⟨fun ⟨x, s, h1, h2, h3⟩ => ⟨x, s, h1, h2, h3.symm⟩, fun ⟨x, s, h1, h2, h3⟩ => ⟨x, s, h1, h2, h3.symm⟩⟩
theorem TLx_s (hs : ab_s A p day = true) : cvR (TLx A day p) (PLx A p (ab_src A p day)) 41 0 e k ↔ (e < 41 ∧ TLx A day (p + 1) e k) ∨ (41 ≤ e ∧ cvR (TLx A day p) (PLx A p (ab_src A p day)) 41 0 e k) := by
  by_cases he : e < 41
  · constructor
    · rintro ⟨a, b, h1, _, k1, k2, h2, h3, h4⟩
      refine Or.inl ⟨he, ?_⟩
      unfold TLx
      rw [TL_s hs, lp_s hs]
      exact ⟨k1, _, k2, _, h2, h3, h4, by omega⟩
    · rintro (⟨_, hk⟩ | ⟨h1, _⟩)
      · unfold TLx at hk
        rw [TL_s hs, lp_s hs] at hk
        obtain ⟨k1, c1, k2, c2, h1, h2, h3, h4⟩ := hk
        have g1 := TL_ge _ _ _ h1
        have g2 := PL_ge h2
        refine ⟨c1 - sm (ab_lp A day) p, c2 - (lb A p (ab_src A p day)).1, by omega, by omega, k1, k2, ?_, ?_, h3⟩
        · unfold TLx
          rw [show sm (ab_lp A day) p + (c1 - sm (ab_lp A day) p) = c1 by omega]
          exact h1
        · unfold PLx
          rw [show (lb A p (ab_src A p day)).1 + (c2 - (lb A p (ab_src A p day)).1) = c2 by omega]
          exact h2
      · omega
  · constructor
    · intro hk
      exact Or.inr ⟨by omega, hk⟩
    · rintro (⟨h1, _⟩ | ⟨_, hk⟩)
      · omega
      · exact hk
theorem TLx_n (hs : ¬ ab_s A p day = true) : TLx A day (p + 1) e k ↔ TLx A day p e k := by
  unfold TLx
  rw [TL_n hs, lp_n hs]
theorem TLx_k (hw : ab_w A) (h : TLx A day p e k) : k ≤ 120 := TL_120 hw h
theorem PLx_k (h : PLx A p S e k) : k ≤ (ab_l A p).length := PL_k h
theorem cv_iff : ∀ n, (cvR R1 R2 k j (j + k) n ∨ ∃ a c, R1 j a ∧ R2 k c ∧ n = a + c) ↔ cvR R1 R2 k (j + 1) (j + k) n := by
  intro n
  constructor
  · rintro (⟨a, b, h1, h2, h3⟩ | ⟨a, c, h1, h2, h3⟩)
    · exact ⟨a, b, h1, by omega, h3⟩
    · exact ⟨j, k, rfl, by omega, a, c, h1, h2, h3⟩
  · rintro ⟨a, b, h1, h2, k1, k2, h3, h4, h5⟩
    by_cases hb : b = k
    · have ha : a = j := by omega
      subst ha
      subst hb
      exact Or.inr ⟨k1, k2, h3, h4, h5⟩
    · exact Or.inl ⟨a, b, h1, by omega, k1, k2, h3, h4, h5⟩
theorem cv_oth (he : e ≠ j + k) : ∀ n, cvR R1 R2 k j e n ↔ cvR R1 R2 k (j + 1) e n := by
  intro n
  constructor
  · rintro ⟨a, b, h1, h2, h3⟩
    exact ⟨a, b, h1, by omega, h3⟩
  · rintro ⟨a, b, h1, h2, h3⟩
    exact ⟨a, b, h1, by omega, h3⟩
theorem cv_next (he : e < 41) (hj : 41 ≤ j + k) : ∀ n, cvR R1 R2 k j e n ↔ cvR R1 R2 (k + 1) 0 e n := by
  intro n
  constructor
  · rintro ⟨a, b, h1, h2, h3⟩
    exact ⟨a, b, h1, by omega, h3⟩
  · rintro ⟨a, b, h1, h2, h3⟩
    exact ⟨a, b, h1, by omega, h3⟩
theorem n_lookAll (w : MX A M) (hp : p < ab_p A) (hs : ab_s A p day = true) (hd : day < 100) (h48 : AF M 48 (TLx A day p)) (h49 : AM M 49 (150 + 12 * p) (TLx A day p)) : ms_H' (d + 10) 240 [.ref h.length, .int (nI p), .int (nI day)] (ms_m h M t) (gN gA h M t (fun N => AF N 48 (TLx A day (p + 1)) ∧ AM N 49 (150 + 12 * (p + 1)) (TLx A day (p + 1)))) := by
  have hn := w.1.2.2.2.2.2 p
  have hp16 := w.1.1.2.1
  refine mx_m (fun a b c => m_X9_lookAll a b ⟨_, ms_m_0⟩ c) gN_l (b_X9_lookAll_0 ?_)
  refine my_n0 (n_findLeast w hp hd) (fun N0 f0 hL0 => ?_)
  have a48 : AF N0 48 (TLx A day p) := AF_e h48 (fun k _ => by rw [mr_a3 f0 (by decide)])
  have a49 : AM N0 49 (150 + 12 * p) (TLx A day p) := AM_e h49 (fun k _ => by rw [mr_a3 f0 (by decide)])
  have h9 := hL0.1.1.1.2.1
  have f0A : md_fr gA M N0 := mr_s f0 gS_gA
  generalize hQ : gN gA h M t (fun N => AF N 48 (TLx A day (p + 1)) ∧ AM N 49 (150 + 12 * (p + 1)) (TLx A day (p + 1))) = Q
  -- the last copy
  have p264 : ∀ r i N, i + r = 41 → md_fr gA M N → AF N 44 (TLx A day (p + 1)) → AM N 45 (150 + 12 * (p + 1)) (TLx A day (p + 1)) → (∀ e, e < i → md_a N 48 e = md_a N 44 e ∧ md_a N 49 e = md_a N 45 e) → ms_V cd_X9_lookAll none 0 (ms_Cl (d + 9)) Q 264 [(0, .ref h.length), (3, .int (nI i))] [] (ms_m h N t) := by
    intro r
    induction r with
    | zero =>
      intro i N hi hf a4 a5 ha
      have e : i = 41 := by omega
      subst e
      refine b_X9_lookAll_264 (ms_yes (by decide) ?_)
      rw [← hQ]
      exact ⟨N, hf, rfl, rfl, AF_e a4 (fun k hk => (ha k hk).1), AM_e a5 (fun k hk => (ha k hk).2)⟩
    | succ r ih =>
      intro i N hi hf a4 a5 ha
      obtain ⟨n1, b4, w4⟩ := a4 i (by omega)
      obtain ⟨y1, b5, w5⟩ := a5 i (by omega)
      have r4 := FW_rg w4
      have r5 := MS_rg w5 (by omega)
      have fin : ∀ v w, v = md_a N 44 i → w = md_a N 45 i → ms_V cd_X9_lookAll none 0 (ms_Cl (d + 9)) Q 264 [(0, .ref h.length), (3, .int (nI (i + 1)))] [] (ms_m h (md_ua (md_ua N 48 i v) 49 i w) t) := by
        intro v w hv hw
        refine ih (i + 1) _ (by omega) (mr_a (mr_a hf (by decide)) (by decide)) ?_ ?_ (fun k hk => ?_)
        · exact AF_e a4 (fun k _ => by rw [md_a_fun (by decide), md_a_fun (by decide)])
        · exact AM_e a5 (fun k _ => by rw [md_a_fun (by decide), md_a_fun (by decide)])
        · rw [show md_a (md_ua (md_ua N 48 i v) 49 i w) 44 k = md_a N 44 k by rw [md_a_fun (by decide), md_a_fun (by decide)], show md_a (md_ua (md_ua N 48 i v) 49 i w) 45 k = md_a N 45 k by rw [md_a_fun (by decide), md_a_fun (by decide)]]
          by_cases hki : k = i
          · subst hki
            rw [md_a_fun (by decide), md_a_at, md_a_at]
            exact ⟨hv, hw⟩
          · rw [md_a_fun (by decide), md_a_ne hki, md_a_ne hki, md_a_fun (by decide)]
            exact ha k (by omega)
      refine b_X9_lookAll_264 (ms_no (fun z => by rw [show (40 : Int32) = nI 40 from rfl, ms_nlt (by omega) (by omega)] at z; omega) ?_)
      simp only [ms_oR_e, ms_oI_e, ms_oL_e, mm_f44, mm_r44, mm_w44, mm_f45, mm_r45, mm_w45, mm_f48, mm_r48, mm_w48, mm_f49, mm_r49, mm_w49]
      refine ⟨ms_in (by omega) (by decide), ?_⟩
      rw [ms_nc (by omega), show nI i + 1 = nI (i + 1) from ms_p1 1, md_a_fun (by decide)]
      refine ms_yes (by rw [b4, show (100000 : Int32) = nI 100000 from rfl, ms_nle (by omega) (by omega)]; exact r4) ⟨ms_in (by omega) (by decide), ms_in (by omega) (by decide), ms_in (by omega) (by decide), ?_⟩
      refine ms_yes (by rw [b5, show (-100000 : Int32) = iI (-100000) by decide, iI_le (by omega) (by omega) (by omega) (by omega)]; exact r5.1) ⟨ms_in (by omega) (by decide), ms_in (by omega) (by decide), fin _ _ rfl rfl⟩
  -- all with the paper's
  have p126 : ∀ r k N, k + r = 41 → md_fr gA M N → AF N 42 (TLx A day p) → AM N 43 (150 + 12 * p) (TLx A day p) → AF N 46 (PLx A p (ab_src A p day)) → AM N 47 12 (PLx A p (ab_src A p day)) → AF N 44 (cvR (TLx A day p) (PLx A p (ab_src A p day)) k 0) → AM N 45 (150 + 12 * (p + 1)) (cvR (TLx A day p) (PLx A p (ab_src A p day)) k 0) → ms_V cd_X9_lookAll none 0 (ms_Cl (d + 9)) Q 126 [(0, .ref h.length), (3, .int (nI k))] [] (ms_m h N t) := by
    intro r
    induction r with
    | zero =>
      intro k N hk hf a2 a3 a6 a7 a4 a5
      have e : k = 41 := by omega
      subst e
      have iff : ∀ e, e < 41 → ∀ k, cvR (TLx A day p) (PLx A p (ab_src A p day)) 41 0 e k ↔ TLx A day (p + 1) e k := fun e he k => by
        rw [TLx_s hs]
        exact ⟨fun z => z.elim (fun z => z.2) (fun z => by omega), fun z => Or.inl ⟨he, z⟩⟩
      exact b_X9_lookAll_126 (ms_yes (by decide) (p264 41 0 N rfl hf (AF_i a4 iff) (AM_i a5 iff (Nat.le_refl _)) (fun e he => absurd he (Nat.not_lt_zero _))))
    | succ r ih =>
      intro k N hk hf a2 a3 a6 a7 a4 a5
      refine b_X9_lookAll_126 (ms_no (fun z => by rw [show (40 : Int32) = nI 40 from rfl, ms_nlt (by omega) (by omega)] at z; omega) ?_)
      suffices HH : ∀ r j N, j + r = 41 → md_fr gA M N → AF N 42 (TLx A day p) → AM N 43 (150 + 12 * p) (TLx A day p) → AF N 46 (PLx A p (ab_src A p day)) → AM N 47 12 (PLx A p (ab_src A p day)) → AF N 44 (cvR (TLx A day p) (PLx A p (ab_src A p day)) k j) → AM N 45 (150 + 12 * (p + 1)) (cvR (TLx A day p) (PLx A p (ab_src A p day)) k j) → ms_V cd_X9_lookAll none 0 (ms_Cl (d + 9)) Q 135 [(0, .ref h.length), (3, .int (nI k)), (4, .int (nI j))] [] (ms_m h N t) from HH 41 0 N rfl hf a2 a3 a6 a7 a4 a5
      intro r2
      induction r2 with
      | zero =>
        intro j N hj hf a2 a3 a6 a7 a4 a5
        refine b_X9_lookAll_135 ?_
        rw [ms_p1, show (40 : Int32) = nI 40 from rfl, show nI k + 1 = nI (k + 1) from ms_p1 1]
        exact ms_yes ((ms_nlt (by decide) (by omega)).mpr (by omega)) (ih (k + 1) N (by omega) hf a2 a3 a6 a7 (AF_i a4 (fun e he => cv_next he (by omega))) (AM_i a5 (fun e he => cv_next he (by omega)) (Nat.le_refl _)))
      | succ r2 ih2 =>
        intro j N hj hf a2 a3 a6 a7 a4 a5
        refine b_X9_lookAll_135 ?_
        rw [ms_p1, show (40 : Int32) = nI 40 from rfl]
        refine ms_ite2 (fun z => ?_) (fun z => ?_) <;> rw [ms_nlt (by decide) (by omega)] at z
        · rw [show nI k + 1 = nI (k + 1) from ms_p1 1]
          exact ih (k + 1) N (by omega) hf a2 a3 a6 a7 (AF_i a4 (fun e he => cv_next he (by omega))) (AM_i a5 (fun e he => cv_next he (by omega)) (Nat.le_refl _))
        · obtain ⟨n1, b2, w1⟩ := a2 j (by omega)
          obtain ⟨y1, b3, v1⟩ := a3 j (by omega)
          obtain ⟨n2, b6, w2⟩ := a6 k (by omega)
          obtain ⟨y2, b7, v2⟩ := a7 k (by omega)
          obtain ⟨n0, b4, w0⟩ := a4 (j + k) (by omega)
          obtain ⟨y0, b5, v0⟩ := a5 (j + k) (by omega)
          have r1 := FW_rg w1
          have r2 := FW_rg w2
          have r0 := FW_rg w0
          have q1 := MS_rg v1 (by omega)
          have q2 := MS_rg v2 (by omega)
          have q0 := MS_rg v0 (by omega)
          have W := FW_i (FW_add w0 w1 w2 (fun a c ha hc => by have := TLx_k w.1 ha; have := PLx_k hc; omega)) cv_iff
          have V := MS_i (MS_add (D := 150 + 12 * (p + 1)) v0 v1 v2 (fun a c ha hc => by have := TLx_k w.1 ha; have := PLx_k hc; omega) (Nat.le_refl _) (fun c hc => by have := PLx_k hc; omega) (fun _ a ha => by have := TLx_k w.1 ha; omega) (by omega) (by omega)) cv_iff
          have fin : ∀ v w, v = nI (min n0 (n1 + n2)) → w = iI (max y0 (y1 + y2)) → ms_V cd_X9_lookAll none 0 (ms_Cl (d + 9)) Q 135 [(0, .ref h.length), (3, .int (nI k)), (4, .int (nI (j + 1)))] [] (ms_m h (md_ua (md_ua N 44 (j + k) v) 45 (j + k) w) t) := by
            intro v w hv hw
            rw [hv, hw]
            refine ih2 (j + 1) _ (by omega) (mr_a (mr_a hf (by decide)) (by decide)) ?_ ?_ ?_ ?_ ?_ ?_
            · exact AF_e a2 (fun k _ => by rw [md_a_fun (by decide), md_a_fun (by decide)])
            · exact AM_e a3 (fun k _ => by rw [md_a_fun (by decide), md_a_fun (by decide)])
            · exact AF_e a6 (fun k _ => by rw [md_a_fun (by decide), md_a_fun (by decide)])
            · exact AM_e a7 (fun k _ => by rw [md_a_fun (by decide), md_a_fun (by decide)])
            · exact AF_e (AF_w a4 W (fun e he => cv_oth he)) (fun k _ => by rw [md_a_fun (by decide)])
            · exact AM_w (AM_e a5 (fun k _ => by rw [md_a_fun (by decide)])) V (fun e he => cv_oth he) (Nat.le_refl _)
          simp only [ms_oR_e, ms_oI_e, ms_oL_e, mm_f42, mm_r42, mm_w42, mm_f43, mm_r43, mm_w43, mm_f44, mm_r44, mm_w44, mm_f45, mm_r45, mm_w45, mm_f46, mm_r46, mm_w46, mm_f47, mm_r47, mm_w47]
          refine ⟨ms_in (by omega) (by decide), ms_in (by omega) (by decide), ms_in (by omega) (by decide), ms_in (by omega) (by decide), ms_in (by omega) (by decide), ?_⟩
          rw [ms_nc (by omega), ms_nc (by omega), ms_nc (by omega), b2, b3, b6, b7, b4, ms_p1, show nI j + 1 = nI (j + 1) from ms_p1 1, iI_a (by omega) (by omega) (by omega) (by omega), md_a_fun (by decide), md_a_fun (by decide), b5]
          refine ms_ite2 (fun z1 => ?_) (fun z1 => ?_) <;> rw [ms_nle (by omega) (by omega)] at z1
          · refine ⟨ms_in (by omega) (by decide), ms_in (by omega) (by decide), ms_in (by omega) (by decide), ?_⟩
            refine ms_ite2 (fun z2 => ?_) (fun z2 => ?_) <;> rw [iI_le (by omega) (by omega) (by omega) (by omega)] at z2
            · refine ⟨ms_in (by omega) (by decide), ms_in (by omega) (by decide), fin _ _ ?_ ?_⟩
              · rw [Nat.min_eq_left z1]
              · rw [Int.max_eq_left z2]
            · refine ⟨ms_in (by omega) (by decide), fin _ _ ?_ ?_⟩
              · rw [Nat.min_eq_left z1]
              · rw [Int.max_eq_right (by omega)]
          · refine ⟨ms_in (by omega) (by decide), ms_in (by omega) (by decide), ?_⟩
            refine ms_ite2 (fun z2 => ?_) (fun z2 => ?_) <;> rw [iI_le (by omega) (by omega) (by omega) (by omega)] at z2
            · refine ⟨ms_in (by omega) (by decide), ms_in (by omega) (by decide), fin _ _ ?_ ?_⟩
              · rw [Nat.min_eq_right (by omega)]
              · rw [Int.max_eq_left z2]
            · refine ⟨ms_in (by omega) (by decide), fin _ _ ?_ ?_⟩
              · rw [Nat.min_eq_right (by omega)]
              · rw [Int.max_eq_right (by omega)]
  -- the copy
  have p84 : ∀ r i N, i + r = 41 → md_fr gA M N → AF N 48 (TLx A day p) → AM N 49 (150 + 12 * p) (TLx A day p) → AF N 46 (PLx A p (ab_src A p day)) → AM N 47 12 (PLx A p (ab_src A p day)) → (∀ e, e < i → md_a N 42 e = md_a N 48 e ∧ md_a N 43 e = md_a N 49 e) → ms_V cd_X9_lookAll none 0 (ms_Cl (d + 9)) Q 84 [(0, .ref h.length), (3, .int (nI i))] [] (ms_m h N t) := by
    intro r
    induction r with
    | zero =>
      intro i N hi hf a8 a9 a6 a7 ha
      have e : i = 41 := by omega
      subst e
      refine b_X9_lookAll_84 (ms_yes (by decide) (my_n0 (n_clearNext (d := d + 8)) (fun N1 f1 ⟨c4, c5⟩ => ?_)))
      have no : ∀ e, e < 41 → ∀ k, (fun _ _ => False : Nat → Nat → Prop) e k ↔ cvR (TLx A day p) (PLx A p (ab_src A p day)) 0 0 e k := fun e he k => ⟨fun z => z.elim, fun ⟨a, b, h1, h2, _⟩ => by omega⟩
      refine p126 41 0 N1 rfl (mr_t hf (mr_s f1 (fun c hc => decide_eq_false (fun z => of_decide_eq_false hc (by omega))))) ?_ ?_ ?_ ?_ (AF_i c4 no) (AM_i c5 no (Nat.zero_le _))
      · exact AF_e a8 (fun k hk => by rw [mr_a3 f1 (by decide)]; exact (ha k hk).1)
      · exact AM_e a9 (fun k hk => by rw [mr_a3 f1 (by decide)]; exact (ha k hk).2)
      · exact AF_e a6 (fun k _ => by rw [mr_a3 f1 (by decide)])
      · exact AM_e a7 (fun k _ => by rw [mr_a3 f1 (by decide)])
    | succ r ih =>
      intro i N hi hf a8 a9 a6 a7 ha
      refine b_X9_lookAll_84 (ms_no (fun z => by rw [show (40 : Int32) = nI 40 from rfl, ms_nlt (by omega) (by omega)] at z; omega) ?_)
      simp only [ms_oR_e, ms_oI_e, ms_oL_e, mm_f42, mm_r42, mm_w42, mm_f43, mm_r43, mm_w43, mm_f48, mm_r48, mm_w48, mm_f49, mm_r49, mm_w49]
      refine ⟨ms_in (by omega) (by decide), ms_in (by omega) (by decide), ms_in (by omega) (by decide), ms_in (by omega) (by decide), ?_⟩
      rw [ms_nc (by omega), show nI i + 1 = nI (i + 1) from ms_p1 1, md_a_fun (by decide)]
      refine ih (i + 1) _ (by omega) (mr_a (mr_a hf (by decide)) (by decide)) ?_ ?_ ?_ ?_ (fun k hk => ?_)
      · exact AF_e a8 (fun k _ => by rw [md_a_fun (by decide), md_a_fun (by decide)])
      · exact AM_e a9 (fun k _ => by rw [md_a_fun (by decide), md_a_fun (by decide)])
      · exact AF_e a6 (fun k _ => by rw [md_a_fun (by decide), md_a_fun (by decide)])
      · exact AM_e a7 (fun k _ => by rw [md_a_fun (by decide), md_a_fun (by decide)])
      · rw [show ∀ v w, md_a (md_ua (md_ua N 42 i v) 43 i w) 48 k = md_a N 48 k from fun v w => by rw [md_a_fun (by decide), md_a_fun (by decide)], show ∀ v w, md_a (md_ua (md_ua N 42 i v) 43 i w) 49 k = md_a N 49 k from fun v w => by rw [md_a_fun (by decide), md_a_fun (by decide)]]
        by_cases hki : k = i
        · subst hki
          rw [md_a_fun (by decide), md_a_at, md_a_at]
          exact ⟨rfl, rfl⟩
        · rw [md_a_fun (by decide), md_a_ne hki, md_a_ne hki, md_a_fun (by decide)]
          exact ha k (by omega)
  -- the choices
  have p40 : ∀ r x N, x + r = 2 ^ (ab_src A p day).length → md_fr gA M N → ML A p (ab_src A p day) N → AF N 48 (TLx A day p) → AM N 49 (150 + 12 * p) (TLx A day p) → AF N 46 (PX A p (ab_src A p day) x) → AM N 47 12 (PX A p (ab_src A p day) x) → ms_V cd_X9_lookAll none 0 (ms_Cl (d + 9)) Q 40 [(0, .ref h.length), (3, .int (nI x))] [] (ms_m h N t) := by
    have hp9 : 2 ^ (ab_src A p day).length ≤ 512 := Nat.pow_le_pow_right (by decide) h9
    intro r
    induction r with
    | zero =>
      intro x N hx hf hL a8 a9 a6 a7
      refine b_X9_lookAll_40 (ms_oI_i mm_f30 ?_)
      rw [hL.1.1.1.1, pw_nI (by omega)]
      have e : x = 2 ^ (ab_src A p day).length := by omega
      refine ms_yes ((ms_nle (by omega) (by omega)).mpr (by omega)) (p84 41 0 N rfl hf a8 a9 (AF_i a6 (fun c hc k => by rw [e, PX_end])) (AM_i a7 (fun c hc k => by rw [e, PX_end]) (Nat.le_refl _)) (fun e he => absurd he (Nat.not_lt_zero _)))
    | succ r ih =>
      intro x N hx hf hL a8 a9 a6 a7
      have hx2 : x < 2 ^ (ab_src A p day).length := by omega
      have hqs := q_s_le (x := x) h9 hn
      have hmn : (lb A p (ab_src A p day)).1 ≤ q_s A p (ab_src A p day) x := ck_b_mn _ x hx2
      have hwN : MX A N := w.fr hf (by decide)
      refine b_X9_lookAll_40 (ms_oI_i mm_f30 ?_)
      rw [hL.1.1.1.1, pw_nI (by omega)]
      refine ms_no (fun z => by rw [ms_nle (by omega) (by omega)] at z; omega) (ms_c1_i (n_sumBy (d := d + 6) hL.1 hn (by omega)) (ms_oI_i mm_f38 ?_))
      rw [hL.2.1, nI_subk hmn, show nI x + 1 = nI (x + 1) from ms_p1 1, show (40 : Int32) = nI 40 from rfl]
      refine ms_ite2 (fun z => ?_) (fun z => ?_) <;> rw [ms_nlt (by decide) (by omega)] at z
      · exact ih (x + 1) N (by omega) hf hL a8 a9 (AF_i a6 (fun e he => PX_n (by omega) he)) (AM_i a7 (fun e he => PX_n (by omega) he) (Nat.le_refl _))
      · refine my_n0 (n_lookBy (d := d + 6) hwN hp hL.1 hx2 (by omega) (by omega) a6 a7) (fun N1 f1 ⟨c6, c7⟩ => ?_)
        refine ih (x + 1) N1 (by omega) (mr_t hf (mr_s f1 (fun c hc => decide_eq_false (fun z => of_decide_eq_false hc (by omega))))) ⟨MC_fr hL.1 f1 (fun k h1 h2 => decide_eq_false (by omega)), ?_, ?_⟩ ?_ ?_ c6 c7
        · rw [(f1 38 (by decide)).1]; exact hL.2.1
        · rw [(f1 39 (by decide)).1]; exact hL.2.2
        · exact AF_e a8 (fun k _ => by rw [mr_a3 f1 (by decide)])
        · exact AM_e a9 (fun k _ => by rw [mr_a3 f1 (by decide)])
  -- the beginning
  suffices H : ∀ r i N, i + r = 41 → md_fr gA M N → ML A p (ab_src A p day) N → AF N 48 (TLx A day p) → AM N 49 (150 + 12 * p) (TLx A day p) → (∀ k, k < i → md_a N 46 k = nI 100000 ∧ md_a N 47 k = iI (-100000)) → ms_V cd_X9_lookAll none 0 (ms_Cl (d + 9)) Q 8 [(0, .ref h.length), (3, .int (nI i))] [] (ms_m h N t) from H 41 0 N0 rfl f0A hL0 a48 a49 (fun k hk => absurd hk (Nat.not_lt_zero _))
  intro r
  induction r with
  | zero =>
    intro i N hi hf hL a8 a9 ha
    have e : i = 41 := by omega
    subst e
    refine b_X9_lookAll_8 (ms_yes (by decide) (p40 (2 ^ (ab_src A p day).length) 0 N (Nat.zero_add _) hf hL a8 a9 (fun e he => ⟨_, (ha e he).1, Or.inl ⟨rfl, fun k ⟨x, s, z, _⟩ => absurd z (Nat.not_lt_zero _)⟩⟩) (fun e he => ⟨_, (ha e he).2, Or.inl ⟨by omega, by omega, fun k ⟨x, s, z, _⟩ => absurd z (Nat.not_lt_zero _)⟩⟩)))
  | succ r ih =>
    intro i N hi hf hL a8 a9 ha
    refine b_X9_lookAll_8 (ms_no (fun z => by rw [show (40 : Int32) = nI 40 from rfl, ms_nlt (by omega) (by omega)] at z; omega) ?_)
    simp only [ms_oR_e, ms_oI_e, ms_oL_e, mm_f46, mm_r46, mm_w46, mm_f47, mm_r47, mm_w47]
    refine ⟨ms_in (by omega) (by decide), ms_in (by omega) (by decide), ?_⟩
    rw [ms_nc (by omega), show nI i + 1 = nI (i + 1) from ms_p1 1]
    have fr2 : ∀ v w, md_fr g47 N (md_ua (md_ua N 46 i v) 47 i w) := fun v w => mr_a (mr_a mr_0 (by decide)) (by decide)
    refine ih (i + 1) _ (by omega) (mr_a (mr_a hf (by decide)) (by decide)) ⟨MC_fr hL.1 (fr2 _ _) (fun k h1 h2 => decide_eq_false (by omega)), hL.2.1, hL.2.2⟩ ?_ ?_ (fun k hk => ?_)
    · exact AF_e a8 (fun k _ => by rw [md_a_fun (by decide), md_a_fun (by decide)])
    · exact AM_e a9 (fun k _ => by rw [md_a_fun (by decide), md_a_fun (by decide)])
    · by_cases hki : k = i
      · subst hki
        rw [md_a_fun (by decide), md_a_at, md_a_at]
        exact ⟨rfl, by decide⟩
      · rw [md_a_fun (by decide), md_a_ne hki, md_a_ne hki, md_a_fun (by decide)]
        exact ha k (by omega)
def gV (h : ms_S) (M : md_T) (t : ms_S) (P : Int32 → Prop) (r : Option Value) (g' : ms_S) : Prop := ∃ N v, md_fr gA M N ∧ g' = ms_m h N t ∧ r = some (.int v) ∧ P v
theorem gV_l {P : Int32 → Prop} : ∀ r g', gV h M t P r g' → (ms_m h M t).length ≤ g'.length ∧ ms_tot (ms_m h M t) ≤ ms_tot g' := by
  rintro r g' ⟨N, v, hf, rfl, _, _⟩
  exact gQ_l (v := v) (some (.int v)) _ ⟨N, hf, rfl, rfl⟩
theorem n_lookers (w : MX A M) {q y u : Int32} : ms_H' (d + 11) 241 [.ref h.length, .int q, .int y, .int u] (ms_m h M t) (gV h M t (lk_an A q y u)) := by
  refine mx_m (fun a b c => m_X9_lookers a b ⟨_, ms_m_0⟩ c) gV_l (b_X9_lookers_0 ?_)
  simp only [ms_oR_e, ms_oI_e, ms_oL_e, mm_f0, mm_p0]
  have w0 : MX A (md_ui M 0 0) := w
  have f0 : md_fr gA M (md_ui M 0 0) := mr_i mr_0 rfl
  have hp16 := w.1.1.2.1
  unfold lk_an
  refine ms_c1_i (n_inK 40 (by decide) 40 (by decide) _) (ms_ifT (fun hg => ?_) (fun hg => ?_))
  · rw [hg]
    exact ⟨_, _, f0, rfl, rfl, rfl⟩
  rw [hg, Bool.true_and]
  refine ms_c1_i (n_day _) (ms_ifT (fun hv => ?_) (fun hv => ?_))
  · rw [hv]
    exact ⟨_, _, f0, rfl, rfl, rfl⟩
  rw [hv, Bool.true_and]
  refine ms_c1_i (n_inK 1 (by decide) 1 (by decide) _) (ms_ifT (fun hu => ?_) (fun hu => ?_))
  · rw [hu]
    exact ⟨_, _, f0, rfl, rfl, rfl⟩
  obtain ⟨s, hs, rfl, e1, _⟩ := ms_ix_k hg
  obtain ⟨j, hj, rfl, e2, _⟩ := ms_ix_k hv
  obtain ⟨n, hn, rfl, e3, _⟩ := ms_ix_k hu
  rw [hu, e1, e2, e3]
  generalize hQ : gV h M t (fun v => if true = true then ∃ m, m < 121 ∧ v = nI m ∧ LKa A j s n m else v = -1) = Q
  -- the sum over what is spent
  have p138 : ∀ r i N a b, i + r = s + 1 → md_fr gA M N → AF N 48 (TLx A j (ab_p A)) → AM N 49 (150 + 12 * ab_p A) (TLx A j (ab_p A)) → FW (fun k => ∃ e, e < i ∧ TLx A j (ab_p A) e k) a → (0 ≤ b ∧ b ≤ 1000 ∧ (∀ k, (∃ e, e < i ∧ TLx A j (ab_p A) e k) → (k : Int) ≤ b) ∧ (b = 0 ∨ ∃ e, e < i ∧ TLx A j (ab_p A) e b.toNat)) → ms_V cd_X9_lookers none 1 (ms_Cl (d + 10)) Q 138 [(0, .ref h.length), (1, .int (nI s)), (3, .int (nI n)), (4, .int (nI a)), (5, .int (iI b)), (6, .int (nI i))] [] (ms_m h N t) := by
    intro r
    induction r with
    | zero =>
      intro i N a b hi hf a8 a9 ha hb
      have e : i = s + 1 := by omega
      subst e
      obtain ⟨k0, h0⟩ := TL_opt (day := j) w.1 (ab_p A)
      have hex : TLx A j (ab_p A) 0 k0 := h0
      have up : ∀ k c, TL A j (ab_p A) k c → c ≤ sm (ab_lp A j) (ab_p A) + s → ∃ e, e < s + 1 ∧ TLx A j (ab_p A) e k := fun k c hk hc => by
        have := TL_ge _ _ _ hk
        refine ⟨c - sm (ab_lp A j) (ab_p A), by omega, ?_⟩
        unfold TLx
        rw [show sm (ab_lp A j) (ab_p A) + (c - sm (ab_lp A j) (ab_p A)) = c by omega]
        exact hk
      have dn : ∀ k, (∃ e, e < s + 1 ∧ TLx A j (ab_p A) e k) → ∃ c, c ≤ sm (ab_lp A j) (ab_p A) + s ∧ TL A j (ab_p A) k c := fun k ⟨e, he, hk⟩ => ⟨_, by omega, hk⟩
      have k120 : ∀ k, (∃ e, e < s + 1 ∧ TLx A j (ab_p A) e k) → k ≤ 120 := fun k ⟨e, he, hk⟩ => TLx_k w.1 hk
      refine b_X9_lookers_138 (ms_yes ((ms_nlt (by omega) (by omega)).mpr (by omega)) ?_)
      have h01 : n = 0 ∨ n = 1 := by omega
      rw [← hQ]
      rcases h01 with rfl | rfl
      · refine ms_yes rfl ⟨N, _, hf, rfl, rfl, ?_⟩
        show if true = true then _ else _
        rw [if_pos rfl]
        rcases ha with ⟨_, ha⟩ | ⟨_, ha2, ha3⟩
        · exact absurd ⟨0, by omega, hex⟩ (ha k0)
        · have := k120 _ ha2
          refine ⟨a, by omega, rfl, ?_⟩
          unfold LKa
          rw [if_neg (by decide)]
          exact ⟨dn _ ha2, fun k c hk hc => ha3 k (up k c hk hc)⟩
      · refine ms_no (by decide) ⟨N, _, hf, rfl, rfl, ?_⟩
        show if true = true then _ else _
        rw [if_pos rfl]
        obtain ⟨b1, b2, b3, b4⟩ := hb
        have b5 : ∃ e, e < s + 1 ∧ TLx A j (ab_p A) e b.toNat := by
          rcases b4 with b4 | b4
          · have := b3 k0 ⟨0, by omega, hex⟩
            rw [show b.toNat = k0 by omega]
            exact ⟨0, by omega, hex⟩
          · exact b4
        have := k120 _ b5
        refine ⟨b.toNat, by omega, iI_N b1 (by omega), ?_⟩
        unfold LKa
        rw [if_pos rfl]
        refine ⟨dn _ b5, fun k c hk hc => ?_⟩
        have := b3 k (up k c hk hc)
        omega
    | succ r ih =>
      intro i N a b hi hf a8 a9 ha hb
      obtain ⟨n1, c8, w8⟩ := a8 i (by omega)
      obtain ⟨y1, c9, w9⟩ := a9 i (by omega)
      have r8 := FW_rg w8
      have r9 := MS_rg w9 (by omega)
      have ra := FW_rg ha
      obtain ⟨b1, b2, b3, b4⟩ := hb
      have W : FW (fun k => ∃ e, e < i + 1 ∧ TLx A j (ab_p A) e k) (min a (n1 + 0)) := FW_i (FW_add ha w8 (FW_1 (b := 0) (by omega)) (fun a c ha hc => by have := TLx_k w.1 ha; omega)) (fun k => by
        constructor
        · rintro (⟨e, he, hk⟩ | ⟨a, c, hx, hc, hk⟩)
          · exact ⟨e, by omega, hk⟩
          · exact ⟨i, by omega, by rw [show k = a by omega]; exact hx⟩
        · rintro ⟨e, he, hk⟩
          by_cases hei : e = i
          · rw [hei] at hk
            exact Or.inr ⟨k, 0, hk, rfl, rfl⟩
          · exact Or.inl ⟨e, by omega, hk⟩)
      have V : 0 ≤ max b y1 ∧ max b y1 ≤ 1000 ∧ (∀ k, (∃ e, e < i + 1 ∧ TLx A j (ab_p A) e k) → (k : Int) ≤ max b y1) ∧ (max b y1 = 0 ∨ ∃ e, e < i + 1 ∧ TLx A j (ab_p A) e (max b y1).toNat) := by
        refine ⟨by omega, by omega, fun k ⟨e, he, hk⟩ => ?_, ?_⟩
        · by_cases hei : e = i
          · rw [hei] at hk
            rcases w9 with ⟨_, _, w9⟩ | ⟨_, _, _, w9⟩
            · exact absurd hk (w9 k)
            · have := w9 k hk
              omega
          · have := b3 k ⟨e, by omega, hk⟩
            omega
        · by_cases hc : y1 ≤ b
          · rw [Int.max_eq_left hc]
            exact b4.imp id (fun ⟨e, he, hk⟩ => ⟨e, by omega, hk⟩)
          · rw [Int.max_eq_right (by omega)]
            rcases w9 with ⟨_, w9, _⟩ | ⟨_, _, w9, _⟩
            · omega
            · exact Or.inr ⟨i, by omega, w9⟩
      have fin : ∀ v w, v = nI (min a (n1 + 0)) → w = iI (max b y1) → ms_V cd_X9_lookers none 1 (ms_Cl (d + 10)) Q 138 [(0, .ref h.length), (1, .int (nI s)), (3, .int (nI n)), (4, .int v), (5, .int w), (6, .int (nI (i + 1)))] [] (ms_m h N t) := by
        intro v w hv hw
        rw [hv, hw]
        exact ih (i + 1) N _ _ (by omega) hf a8 a9 W V
      refine b_X9_lookers_138 (ms_no (fun z => by rw [ms_nlt (by omega) (by omega)] at z; omega) ?_)
      simp only [ms_oR_e, ms_oI_e, ms_oL_e, mm_f48, mm_r48, mm_w48, mm_f49, mm_r49, mm_w49]
      refine ⟨ms_in (by omega) (by decide), ?_⟩
      rw [ms_nc (by omega), c8, c9, show nI i + 1 = nI (i + 1) from ms_p1 1]
      refine ms_ite2 (fun z1 => ?_) (fun z1 => ?_) <;> rw [ms_nle (by omega) (by omega)] at z1
      · refine ⟨ms_in (by omega) (by decide), ?_⟩
        refine ms_ite2 (fun z2 => ?_) (fun z2 => ?_) <;> rw [iI_le (by omega) (by omega) (by omega) (by omega)] at z2
        · refine fin _ _ ?_ ?_
          · rw [Nat.min_eq_left (by omega)]
          · rw [Int.max_eq_left z2]
        · refine ⟨ms_in (by omega) (by decide), fin _ _ ?_ ?_⟩
          · rw [Nat.min_eq_left (by omega)]
          · rw [Int.max_eq_right (by omega)]
      · refine ⟨ms_in (by omega) (by decide), ms_in (by omega) (by decide), ?_⟩
        refine ms_ite2 (fun z2 => ?_) (fun z2 => ?_) <;> rw [iI_le (by omega) (by omega) (by omega) (by omega)] at z2
        · refine fin _ _ ?_ ?_
          · rw [Nat.min_eq_right (by omega)]; rfl
          · rw [Int.max_eq_left z2]
        · refine ⟨ms_in (by omega) (by decide), fin _ _ ?_ ?_⟩
          · rw [Nat.min_eq_right (by omega)]; rfl
          · rw [Int.max_eq_right (by omega)]
  -- the papers
  have p93 : ∀ r p N, p + r = ab_p A → md_fr gA M N → AF N 48 (TLx A j p) → AM N 49 (150 + 12 * p) (TLx A j p) → ms_V cd_X9_lookers none 1 (ms_Cl (d + 10)) Q 93 [(0, .ref h.length), (1, .int (nI s)), (2, .int (nI j)), (3, .int (nI n)), (4, .int (nI p))] [] (ms_m h N t) := by
    intro r
    induction r with
    | zero =>
      intro p N hp hf a8 a9
      have e : p = ab_p A := by omega
      subst e
      have hwN : MX A N := w.fr hf (by decide)
      refine b_X9_lookers_93 (ms_oR_i mm_f3 (n_pc hwN (ms_yes ((ms_nle (by omega) (by omega)).mpr (Nat.le_refl _)) ?_)))
      have := p138 (s + 1) 0 N 100000 0 (by omega) hf a8 a9 (Or.inl ⟨rfl, fun k ⟨e, he, _⟩ => absurd he (Nat.not_lt_zero _)⟩) ⟨by omega, by omega, fun k ⟨e, he, _⟩ => absurd he (Nat.not_lt_zero _), Or.inl rfl⟩
      exact this
    | succ r ih =>
      intro p N hp hf a8 a9
      have hwN : MX A N := w.fr hf (by decide)
      refine b_X9_lookers_93 (ms_oR_i mm_f3 (n_pc hwN (ms_no (fun z => by rw [ms_nle (by omega) (by omega)] at z; omega) (ms_c1_i (n_isSeen hwN (by omega) (by omega)) ?_))))
      rw [show nI p + 1 = nI (p + 1) from ms_p1 1]
      refine ms_ifT (fun hg => ?_) (fun hg => ?_)
      · have hno : ¬ ab_s A p j = true := by rw [hg]; decide
        exact ih (p + 1) N (by omega) hf (AF_i a8 (fun e he k => (TLx_n hno).symm)) (AM_i a9 (fun e he k => (TLx_n hno).symm) (by omega))
      · exact my_n0 (n_lookAll (d := d) hwN (by omega) hg (by omega) a8 a9) (fun N1 f1 ⟨c8, c9⟩ => ih (p + 1) N1 (by omega) (mr_t hf f1) c8 c9)
  -- the beginning
  suffices H : ∀ r i N, i + r = 41 → md_fr gA M N → (∀ k, k < i → md_a N 48 k = (if k = 0 then 0 else nI 100000) ∧ md_a N 49 k = (if k = 0 then 0 else iI (-100000))) → ms_V cd_X9_lookers none 1 (ms_Cl (d + 10)) Q 39 [(0, .ref h.length), (1, .int (nI s)), (2, .int (nI j)), (3, .int (nI n)), (4, .int (nI i))] [] (ms_m h N t) from H 41 0 _ rfl f0 (fun k hk => absurd hk (Nat.not_lt_zero _))
  intro r
  induction r with
  | zero =>
    intro i N hi hf ha
    have e : i = 41 := by omega
    subst e
    have T0 : ∀ e k, TLx A j 0 e k ↔ k = 0 ∧ e = 0 := fun e k => ⟨fun ⟨h1, h2⟩ => ⟨h1, by have : sm (ab_lp A j) 0 = 0 := rfl; omega⟩, fun ⟨h1, h2⟩ => ⟨h1, by rw [h2]; rfl⟩⟩
    refine b_X9_lookers_39 (ms_yes (by decide) (p93 (ab_p A) 0 N (by omega) hf (fun e he => ?_) (fun e he => ?_)))
    · rw [(ha e he).1]
      by_cases hes : e = 0
      · rw [if_pos hes]
        exact ⟨0, rfl, Or.inr ⟨by omega, (T0 _ _).mpr ⟨rfl, hes⟩, fun k _ => Nat.zero_le k⟩⟩
      · rw [if_neg hes]
        exact ⟨_, rfl, Or.inl ⟨rfl, fun k hk => hes ((T0 _ _).mp hk).2⟩⟩
    · rw [(ha e he).2]
      by_cases hes : e = 0
      · rw [if_pos hes]
        exact ⟨0, by decide, Or.inr ⟨by omega, by omega, (T0 _ _).mpr ⟨rfl, hes⟩, fun k hk => by have := ((T0 _ _).mp hk).1; omega⟩⟩
      · rw [if_neg hes]
        exact ⟨_, rfl, Or.inl ⟨by omega, by omega, fun k hk => hes ((T0 _ _).mp hk).2⟩⟩
  | succ r ih =>
    intro i N hi hf ha
    have fin : ∀ v w, v = (if i = 0 then 0 else nI 100000) → w = (if i = 0 then 0 else iI (-100000)) → ms_V cd_X9_lookers none 1 (ms_Cl (d + 10)) Q 39 [(0, .ref h.length), (1, .int (nI s)), (2, .int (nI j)), (3, .int (nI n)), (4, .int (nI (i + 1)))] [] (ms_m h (md_ua (md_ua N 48 i v) 49 i w) t) := by
      intro v w hv hw
      refine ih (i + 1) _ (by omega) (mr_a (mr_a hf (by decide)) (by decide)) (fun k hk => ?_)
      by_cases hki : k = i
      · subst hki
        rw [md_a_fun (by decide), md_a_at, md_a_at]
        exact ⟨hv, hw⟩
      · rw [md_a_fun (by decide), md_a_ne hki, md_a_ne hki, md_a_fun (by decide)]
        exact ha k (by omega)
    refine b_X9_lookers_39 (ms_no (fun z => by rw [show (40 : Int32) = nI 40 from rfl, ms_nlt (by omega) (by omega)] at z; omega) ?_)
    simp only [ms_oR_e, ms_oI_e, ms_oL_e, mm_f48, mm_r48, mm_w48, mm_f49, mm_r49, mm_w49]
    rw [ms_nc (by omega), show nI i + 1 = nI (i + 1) from ms_p1 1, show (0 : Int32) = nI 0 from rfl]
    refine ms_ite2 (fun z => ?_) (fun z => ?_)
    · have z2 := z
      rw [ms_nI_eq (by omega) (by omega)] at z2
      refine ⟨ms_in (by omega) (by decide), ms_yes z ⟨ms_in (by omega) (by decide), fin _ _ ?_ ?_⟩⟩
      · rw [if_pos z2]; rfl
      · rw [if_pos z2]; rfl
    · have z2 := z
      rw [ms_nI_eq (by omega) (by omega)] at z2
      refine ⟨ms_in (by omega) (by decide), ms_no z ⟨ms_in (by omega) (by decide), fin _ _ ?_ ?_⟩⟩
      · rw [if_neg z2]; rfl
      · rw [if_neg z2]; decide
end Lko
