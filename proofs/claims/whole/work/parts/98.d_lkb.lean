/-! THE CLASS'S lookers; written by wip/whole/mdl.py from d_lkb.txt -/
def fJ (z : Nat) : Bool := decide (z = 32)
section Lkb
variable {d b i j k m n p o e f u v x y z s r c F L day bd : Nat} {X Y Z : cx_T} {t : ms_S} {A : ab_T} {S : List Nat} {K : Int32 → ms_S → Prop} {q w : Int32}
theorem cx_a_sn {c2 : Nat} {f : Nat → Int32} (h : c2 ≠ c) : cx_a (cx_sa X c f) c2 n = cx_a X c2 n := by
  show (if c2 = c then f else X.2.1 c2) n = X.2.1 c2 n
  rw [if_neg h]
theorem cA_32 : cA 32 121 := ⟨fun _ => rfl, fun _ _ _ => rfl, by decide⟩
theorem cA_28 : cA 28 16 := ⟨fun _ => rfl, fun _ _ _ => rfl, by decide⟩
theorem cA_27 : cA 27 16 := ⟨fun _ => rfl, fun _ _ _ => rfl, by decide⟩
theorem cS_31 : cS 31 208 := fun _ _ => rfl
theorem cS_32 : cS 32 121 := fun _ _ => rfl
theorem k_tellLooked (hC : CK A b p S X) (hn : (ab_l A p).length ≤ 12) (hF : F + 13 ≤ 208) (hb : bd < 2 ^ 31) : ms_H' (d + 4) 34 [.ref 15, .ref 31, .int (nI F), .int (nI bd)] (ms_x X t) (fN (fTc 31) X t (fun Y => (∀ k, k < 13 → cx_a Y 31 (F + k) = nI (lkr_n A p S bd k (2 ^ S.length))) ∧ ∀ i, (i < F ∨ F + 13 ≤ i) → cx_a Y 31 i = cx_a X 31 i)) := by
  have hm := hC.2.2.1
  have hp9 : 2 ^ S.length ≤ 512 := Nat.pow_le_pow_right (by decide) hm
  have hp0 : 0 < 2 ^ S.length := Nat.two_pow_pos _
  refine mx_m (fun a b c => m_X1_tellLooked a b ⟨_, xo_15⟩ c) fN_l (b_X1_tellLooked_0 ?_)
  refine ms_no (Int32.not_lt.mpr (ms_nI_0 (by omega))) ?_
  rw [cA_l cA_31, show (12 : Int32) = nI 12 from rfl, ms_p1]
  refine ms_yes ((ms_nlt (by omega) (by decide)).mpr (by omega)) ?_
  rw [show nI (F + 12) + 1 = nI (F + 13) from ms_p1 1]
  have k := c_fillr (d := d + 1) (a := F) (b := F + 13) (v := 100000000) (cx_get (c := 31) (X := X) (t := t) (v := .inl (0, 208, .inl (cx_a X 31))) rfl) (by omega) hF (by decide)
  rw [cx_set (X := X) _ (cx_sa X 31 (ms_fillr (cx_a X 31) F (F + 13) 100000000)) (cS_31 _ _) (by decide)] at k
  refine ms_c0_i k ?_
  suffices H : ∀ r x Y, x + r = 2 ^ S.length → cx_fr (fTc 31) X Y → (x = 0 ∨ RI A p S Y (x - 1)) → (∀ k, k < 13 → cx_a Y 31 (F + k) = nI (lkr_n A p S bd k x)) → (∀ i, (i < F ∨ F + 13 ≤ i) → cx_a Y 31 i = cx_a X 31 i) → ms_V cd_X1_tellLooked none 0 (ms_Cl (d + 3)) (fN (fTc 31) X t (fun Y => (∀ k, k < 13 → cx_a Y 31 (F + k) = nI (lkr_n A p S bd k (2 ^ S.length))) ∧ ∀ i, (i < F ∨ F + 13 ≤ i) → cx_a Y 31 i = cx_a X 31 i)) 30 [(0, .ref 15), (1, .ref 31), (2, .int (nI F)), (3, .int (nI bd)), (4, .int (nI x))] [] (ms_x Y t) by
    refine H (2 ^ S.length) 0 _ (by omega) (fr_sa fr_0 (by decide)) (Or.inl rfl) (fun k hk => ?_) (fun i hi => ?_)
    · rw [cx_a_sa]
      unfold ms_fillr
      rw [if_pos (by omega)]
      rfl
    · rw [cx_a_sa]
      unfold ms_fillr
      rw [if_neg (by omega)]
  have hS : ∀ c, 15 ≤ c → c ≤ 20 → fTc 31 c = false := fun c h1 h2 => fTc_n (by omega) (by omega)
  intro r
  induction r with
  | zero =>
    intro x Y hx hf hI h1 h2
    have hCY := CK_f2 hC hf hS
    refine b_X1_tellLooked_30 (ms_oI_i xf_15_4 ?_)
    rw [hCY.2.1, pw_nI (by omega)]
    refine ms_yes ((ms_nle (by omega) (by omega)).mpr (by omega)) ⟨Y, hf, rfl, rfl, ?_, h2⟩
    rw [show 2 ^ S.length = x by omega]
    exact h1
  | succ r ih =>
    intro x Y hx hf hI h1 h2
    have hCY := CK_f2 hC hf hS
    refine b_X1_tellLooked_30 (ms_oI_i xf_15_4 ?_)
    rw [hCY.2.1, pw_nI (by omega)]
    refine ms_no (fun z => by rw [ms_nle (by omega) (by omega)] at z; omega) ?_
    have hx2 : x < 2 ^ S.length := by omega
    have h512 : x < 512 := by omega
    refine mx_v1 (k_rowFor hCY hn hx2 (fun h0 => ?_)) (fun Z v fz ⟨e1, e2, e3⟩ => ?_)
    · have := RI_need (x := x - 1) (by omega) (hI.resolve_left h0)
      rw [show x - 1 + 1 = x by omega] at this
      exact this
    have hCZ := CK_fr hCY fz
    have hIZ := RI_next h512 hI e2 e3
    have hfZ : cx_fr (fTc 31) X Z := fr_t hf (fr_s fz fTc_R)
    have h1Z : ∀ i, cx_a Z 31 i = cx_a Y 31 i := (fz.1 31 (by decide)).2
    have hs := q_s_le (x := x) hm hn
    have hst : ∀ k, lkr_n A p S bd k (x + 1) = if q_s A p S x ≤ bd then min (lkr_n A p S bd k x) (nl_v (nl_f A p S x) k) else lkr_n A p S bd k x := fun k => rfl
    rw [e1]
    refine ms_c1_i (show ms_Cl _ 29 [.ref 15, .int (nI (rwi x))] (ms_x Z t) (some (.int (nI (q_s A p S x)))) (ms_x Z t) from k_sumAt hCZ hn (rwi_le h512) e2) ?_
    rw [show nI x + 1 = nI (x + 1) from ms_p1 1]
    refine ms_ite2 (fun z => ?_) (fun z => ?_)
    · rw [ms_nlt (by omega) (by omega)] at z
      refine ih (x + 1) Z (by omega) hfZ (Or.inr hIZ) (fun k hk => ?_) (fun i hi => ?_)
      · rw [hst, if_neg (by omega), h1Z]
        exact h1 k hk
      · rw [h1Z]
        exact h2 i hi
    · rw [ms_nlt (by omega) (by omega)] at z
      refine mx_n0 (k_noteLooked (H := fun k => lkr_n A p S bd k x) hCZ hn (rwi_le h512) e2 cA_31 (Or.inl rfl) hF (fun k hk => ⟨?_, lkr_n_le x⟩)) (fun W fw ⟨g1, g2⟩ => ?_)
      · rw [h1Z]
        exact h1 k hk
      · have w21 : fDc 31 21 = false := by decide
        have w22 : fDc 31 22 = false := by decide
        refine ih (x + 1) W (by omega) (fr_t hfZ (fr_s fw fTc_D)) (Or.inr ⟨RW_f2 hIZ.1 fw w21 w22, fun k hk hb => RW_f2 (hIZ.2 k hk hb) fw w21 w22⟩) (fun k hk => ?_) (fun i hi => ?_)
        · rw [hst, if_pos (by omega)]
          exact g1 k hk
        · rw [g2 i hi, h1Z]
          exact h2 i hi
theorem tgj_st {f g : Nat → Nat} {m j : Nat} (h : m < j) : ∀ r, tgj f g m (j + r) = tgj f g m j
  | 0 => rfl
  | r + 1 => by
    have ih := tgj_st (f := f) (g := g) h r
    rw [show tgj f g m (j + (r + 1)) = if j + r ≤ m then min (tgj f g m (j + r)) (g (m - (j + r)) + f (j + r)) else tgj f g m (j + r) from rfl, if_neg (by omega)]
    exact ih
theorem k_joinLooked {f g : Nat → Nat} (hF : F + 13 ≤ 208) (hf : ∀ k, k < 13 → cx_a X 31 (F + k) = nI (f k) ∧ f k ≤ NW) (hg : ∀ m, m < 121 → cx_a X 32 m = nI (g m) ∧ g m ≤ NW) : ms_H' (d + 1) 61 [.ref 24, .int (nI F)] (ms_x X t) (fN fJ X t (fun Y => ∀ m, m < 121 → cx_a Y 32 m = nI (tgj f g m 13))) := by
  refine mx_m (fun a b c => m_X3_joinLooked a b ⟨_, xo_24⟩ c) fN_l (b_X3_joinLooked_0 ?_)
  simp only [xf_24_10, ms_oR_e, cA_l cA_32]
  rw [show (nI 121 - 1 : Int32) = nI 120 by decide]
  have h31 : fJ 31 = false := by decide
  suffices H : ∀ m Y, m ≤ 121 → cx_fr fJ X Y → (∀ k, k < m → cx_a Y 32 k = nI (g k)) → (∀ k, m ≤ k → k < 121 → cx_a Y 32 k = nI (tgj f g k 13)) → ms_V cd_X3_joinLooked none 0 (ms_Cl d) (fN fJ X t (fun Y => ∀ m, m < 121 → cx_a Y 32 m = nI (tgj f g m 13))) 8 [(0, .ref 24), (1, .int (nI F)), (2, .int (nI m - 1))] [] (ms_x Y t) by
    have := H 121 X (Nat.le_refl _) fr_0 (fun k hk => (hg k hk).1) (fun k h1 h2 => by omega)
    rw [show (nI 121 - 1 : Int32) = nI 120 by decide] at this
    exact this
  intro m
  induction m with
  | zero =>
    intro Y hm fy h1 h2
    exact b_X3_joinLooked_8 (ms_yes (by decide) ⟨Y, fy, rfl, rfl, fun k hk => h2 k (Nat.zero_le _) hk⟩)
  | succ m ih =>
    intro Y hm fy h1 h2
    rw [ms_nI_m1]
    refine b_X3_joinLooked_8 (ms_no (Int32.not_lt.mpr (ms_nI_0 (by omega))) ?_)
    have fin : ∀ v, v = nI (tgj f g m 13) → ms_wI (ms_x Y t) 32 (nI m) v fun g2 => ms_V cd_X3_joinLooked none 0 (ms_Cl d) (fN fJ X t (fun Y => ∀ m, m < 121 → cx_a Y 32 m = nI (tgj f g m 13))) 8 [(0, .ref 24), (1, .int (nI F)), (2, .int (nI m + (-1)))] [] g2 := by
      intro v hv
      rw [cA_w cA_32, hv]
      refine ⟨ms_in (by omega) (by decide), ?_⟩
      rw [ms_nc (by omega), show nI m + (-1) = nI m - 1 from (Int32.sub_eq_add_neg _ _).symm]
      refine ih _ (by omega) (fr_a fy (by decide)) (fun k hk => ?_) (fun k hk1 hk2 => ?_)
      · rw [cx_a_ua, if_neg (by omega)]
        exact h1 k (by omega)
      · rw [cx_a_ua]
        by_cases hkm : k = m
        · subst hkm
          rw [if_pos ⟨rfl, rfl⟩]
        · rw [if_neg (by omega)]
          exact h2 k (by omega) hk2
    suffices HH : ∀ r j, j + r = 13 → j ≤ m + 1 → ms_V cd_X3_joinLooked none 0 (ms_Cl d) (fN fJ X t (fun Y => ∀ m, m < 121 → cx_a Y 32 m = nI (tgj f g m 13))) 18 [(0, .ref 24), (1, .int (nI F)), (2, .int (nI m)), (3, .int (nI (tgj f g m j))), (4, .int (nI j))] [] (ms_x Y t) from HH 13 0 rfl (Nat.zero_le _)
    intro r
    induction r with
    | zero =>
      intro j hj hjm
      have e : j = 13 := by omega
      subst e
      refine b_X3_joinLooked_18 (ms_yes (by decide) ?_)
      simp only [xf_24_10, ms_oR_e]
      exact fin _ rfl
    | succ r ih2 =>
      intro j hj hjm
      refine b_X3_joinLooked_18 (ms_no (fun z => by rw [show (13 : Int32) = nI 13 from rfl, ms_nle (by omega) (by omega)] at z; omega) ?_)
      have e1 : nI F + nI j = nI (F + j) := ms_p1 _
      simp only [xf_24_10, xf_24_9, ms_oR_e, cA_l cA_31, e1]
      refine ms_ite2 (fun z => ?_) (fun z => ?_)
      · rw [ms_nlt (by omega) (by omega)] at z
        refine fin _ ?_
        have := tgj_st (f := f) (g := g) z (13 - j)
        rw [show j + (13 - j) = 13 by omega] at this
        rw [this]
      · rw [ms_nlt (by omega) (by omega)] at z
        refine ms_no (fun z => by rw [ms_nle (by omega) (by omega)] at z; omega) ?_
        have e2 : nI m - nI j = nI (m - j) := by
          have := ms_p1 (p := m - j) j
          rw [show m - j + j = m by omega] at this
          rw [← this, Int32.add_sub_cancel]
        rw [cA_r cA_32, cA_r cA_31, e2]
        refine ⟨ms_in (by omega) (by decide), ms_in (by omega) (by decide), ?_⟩
        have hgm := (hg (m - j) (by omega)).2
        have hfm := (hf j (by omega)).2
        have htm := tgj_le (f := f) (g := g) (m := m) j
        unfold NW at hgm hfm htm
        rw [ms_nc (by omega), ms_nc (by omega), h1 (m - j) (by omega), (fy.1 31 h31).2, (hf j (by omega)).1, ms_p1, mn_nI (by omega) (by omega), show nI j + 1 = nI (j + 1) from ms_p1 1]
        have := ih2 (j + 1) (by omega) (by omega)
        rw [show tgj f g m (j + 1) = if j ≤ m then min (tgj f g m j) (g (m - j) + f j) else tgj f g m j from rfl, if_pos (by omega)] at this
        exact this
theorem k_lookedWithin {g : Nat → Nat} {wb : Bool} (hg : ∀ m, m < 121 → cx_a X 32 m = nI (g m) ∧ g m ≤ NW) (hb : bd < 2 ^ 31) : ms_Cl (d + 1) 62 [.ref 24, .int (nI bd), .int (ms_bi wb)] (ms_x X t) (some (.int (or_I (lw_n g bd wb 121)))) (ms_x X t) := by
  refine m_X3_lookedWithin (Nat.le_refl _) (Nat.le_refl _) ⟨_, xo_24⟩ (b_X3_lookedWithin_0 ?_)
  suffices H : ∀ r m, m + r = 121 → ms_V cd_X3_lookedWithin none 1 (ms_Cl d) (fun r1 g1 => r1 = some (.int (or_I (lw_n g bd wb 121))) ∧ g1 = ms_x X t) 5 [(0, .ref 24), (1, .int (nI bd)), (2, .int (ms_bi wb)), (3, .int (or_I (lw_n g bd wb m))), (4, .int (nI m))] [] (ms_x X t) from H 121 0 rfl
  intro r
  induction r with
  | zero =>
    intro m hm
    refine b_X3_lookedWithin_5 (Q := ms_lf _ _) ?_
    simp only [xf_24_10, ms_oR_e, cA_l cA_32]
    refine ms_yes ((ms_nle (by decide) (by omega)).mpr (by omega)) ?_
    rw [show m = 121 by omega]
    exact ⟨rfl, rfl⟩
  | succ r ih =>
    intro m hm
    have H := ih (m + 1) (by omega)
    rw [show lw_n g bd wb (m + 1) = if g m ≤ bd ∧ (wb = true ∨ lw_n g bd wb m = none) then some m else lw_n g bd wb m from rfl] at H
    have hgm := (hg m (by omega)).2
    unfold NW at hgm
    refine b_X3_lookedWithin_5 ?_
    simp only [xf_24_10, ms_oR_e, cA_l cA_32, cA_r cA_32]
    refine ms_no (fun z => by rw [ms_nle (by decide) (by omega)] at z; omega) ⟨ms_in (by omega) (by decide), ?_⟩
    rw [ms_nc (by omega), (hg m (by omega)).1, show nI m + 1 = nI (m + 1) from ms_p1 1]
    refine ms_ite2 (fun z => ?_) (fun z => ?_)
    · rw [ms_nlt (by omega) (by omega)] at z
      rw [if_neg (fun w => by omega)] at H
      exact H
    · rw [ms_nlt (by omega) (by omega)] at z
      refine ms_ifT (fun hw => ?_) (fun hw => ?_)
      · subst hw
        cases hl : lw_n g bd false m with
        | none =>
          rw [hl, if_pos ⟨by omega, Or.inr rfl⟩] at H
          exact ms_yes rfl H
        | some v =>
          have hlt : v < 121 := by
            have h2 := lw_f (b := bd) (g := g) m
            rw [hl] at h2
            have := h2.2.1
            omega
          rw [hl, if_neg (fun w => by rcases w.2 with w | w <;> cases w)] at H
          refine ms_no (fun w => nI_m1 (x := v) (by omega) w) H
      · subst hw
        rw [if_pos ⟨by omega, Or.inl rfl⟩] at H
        exact H
theorem tg_fin (h : ab_s A p day = true) : tg A day (p + 1) k = tgj (lkr A p (ab_src A p day)) (tg A day p) k 13 := if_pos h
theorem tg_no (h : ¬ ab_s A p day = true) : tg A day (p + 1) k = tg A day p k := if_neg h
def RA1 (A : ab_T) (day p : Nat) (X Y : cx_T) : Prop := cx_fr fE X Y ∧ LC A 24 Y ∧ (∀ p, p < ab_p A → ab_s A p day = true → SE A 24 Y p (sbits A p day)) ∧ ∀ m, m < 121 → cx_a Y 32 m = nI (tg A day p m)
theorem RA1_k {S2 : Nat → Bool} (h : CX A 6 X t) (hr : RA1 A day p X Y) (f : cx_fr S2 Y Z) (h2 : ∀ c, 25 ≤ c → c ≤ 32 → S2 c = false) (h3 : ∀ c, fE c = false → S2 c = false) : RA1 A day p X Z := by
  obtain ⟨a1, a2, a3, a4⟩ := hr
  have e : ∀ c, 25 ≤ c → c ≤ 32 → ∀ n, cx_a Z c n = cx_a Y c n := fun c h4 h5 n => (f.1 c (h2 c h4 h5)).2 n
  refine ⟨fr_t a1 (fr_s f h3), ?_, fun p hp hs => SE_eq (a3 p hp hs) (e _ (by omega) (by omega) _) (e _ (by omega) (by omega) _) (e _ (by omega) (by omega) _) (fun j _ => e _ (by omega) (by omega) _), fun m hm => by rw [e _ (by omega) (by omega)]; exact a4 m hm⟩
  intro p hp
  obtain ⟨g1, g2, g3⟩ := a2 p hp
  refine ⟨?_, ?_, ?_⟩
  · rw [e _ (by omega) (by omega)]; exact g1
  · rw [e _ (by omega) (by omega)]
    refine g2.imp id (fun ⟨x, hx, hs⟩ => ⟨x, hx, SE_eq hs (e _ (by omega) (by omega) _) (e _ (by omega) (by omega) _) (e _ (by omega) (by omega) _) (fun j _ => e _ (by omega) (by omega) _)⟩)
  · rw [e _ (by omega) (by omega)]
    refine g3.imp id (fun ⟨x, hx, r1, r2⟩ => ⟨x, hx, by rw [e _ (by omega) (by omega)]; exact r1, fun k hk => by rw [e _ (by omega) (by omega)]; exact r2 k hk⟩)
theorem fE_J : ∀ c, fE c = false → fJ c = false := fun c h => decide_eq_false (fun z => of_decide_eq_false h (by omega))
theorem k_reachAll (h : CX A 6 X t) (hC : LC A 24 X) (hse : ∀ p, p < ab_p A → ab_s A p day = true → SE A 24 X p (sbits A p day)) (hd : day < 2 ^ 31) : ms_H' (d + 7) 60 [.ref 24, .int (nI day)] (ms_x X t) (fN fE X t (RA1 A day (ab_p A) X)) := by
  have hw := h.w.1.2.1
  have hL : LO 24 6 := LO_24
  refine mx_m (fun a b c => m_X3_reachAll a b ⟨_, xo_24⟩ c) fN_l (b_X3_reachAll_0 ?_)
  simp only [xf_24_10, ms_oR_e, cA_w cA_32]
  refine ms_c0_i (cx_fill (c := 32) (n := 121) (fun _ => rfl) (fun _ _ => rfl) (by decide) (by decide)) ?_
  simp only [xf_24_10, ms_oR_e, cA_w cA_32]
  refine ⟨ms_in (k := 0) (by decide) (by decide), ?_⟩
  suffices H : ∀ r p Y, p + r = ab_p A → RA1 A day p X Y → ms_V cd_X3_reachAll none 0 (ms_Cl (d + 6)) (fN fE X t (RA1 A day (ab_p A) X)) 18 [(0, .ref 24), (1, .int (nI day)), (2, .int (nI p))] [] (ms_x Y t) by
    refine H (ab_p A) 0 _ (by omega) ⟨fr_a (fr_sa fr_0 (by decide)) (by decide), ?_, ?_, fun m hm => ?_⟩
    · intro p hp
      obtain ⟨g1, g2, g3⟩ := hC p hp
      have e : ∀ c, c ≠ 32 → ∀ n, cx_a (cx_ua (cx_sa X 32 (ms_fill (cx_a X 32) 121 100000000)) 32 (0 : Int32).toNatClampNeg 0) c n = cx_a X c n := fun c hc n => by
        rw [cx_a_ua, if_neg (fun z => hc z.1), cx_a_sn hc]
      refine ⟨?_, ?_, ?_⟩
      · rw [e _ (by omega)]; exact g1
      · rw [e _ (by omega)]
        refine g2.imp id (fun ⟨x, hx, hs⟩ => ⟨x, hx, SE_eq hs (e _ (by omega) _) (e _ (by omega) _) (e _ (by omega) _) (fun j _ => e _ (by omega) _)⟩)
      · rw [e _ (by omega)]
        refine g3.imp id (fun ⟨x, hx, r1, r2⟩ => ⟨x, hx, by rw [e _ (by omega)]; exact r1, fun k hk => by rw [e _ (by omega)]; exact r2 k hk⟩)
    · intro p hp hs
      have e : ∀ c, c ≠ 32 → ∀ n, cx_a (cx_ua (cx_sa X 32 (ms_fill (cx_a X 32) 121 100000000)) 32 (0 : Int32).toNatClampNeg 0) c n = cx_a X c n := fun c hc n => by
        rw [cx_a_ua, if_neg (fun z => hc z.1), cx_a_sn hc]
      exact SE_eq (hse p hp hs) (e _ (by omega) _) (e _ (by omega) _) (e _ (by omega) _) (fun j _ => e _ (by omega) _)
    · rw [cx_a_ua, cx_a_sa, show (0 : Int32).toNatClampNeg = 0 by decide]
      rw [show tg A day 0 m = if m = 0 then 0 else NW from rfl]
      unfold ms_fill
      by_cases h0 : m = 0
      · rw [if_pos ⟨rfl, h0⟩, if_pos h0]; rfl
      · rw [if_neg (fun z => h0 z.2), if_neg h0, if_pos hm]; rfl
  intro r
  induction r with
  | zero =>
    intro p Y hp hr
    have hY := h.fr hr.1
    refine b_X3_reachAll_18 (ms_oR_i xf_24_0 (ms_oI_i (k_pc hY) ?_))
    refine ms_yes ((ms_nle (by omega) (by omega)).mpr (by omega)) ⟨Y, hr.1, rfl, rfl, ?_⟩
    rw [show ab_p A = p by omega]
    exact hr
  | succ r ih =>
    intro p Y hp hr
    have hY := h.fr hr.1
    have hpa : p < ab_p A := by omega
    have hn := h.w.2.2.2.2.2 p
    have hsb := sb_16 (A := A) (p := p) (day := day)
    refine b_X3_reachAll_18 (ms_oR_i xf_24_0 (ms_oI_i (k_pc hY) (ms_no (fun z => by rw [ms_nle (by omega) (by omega)] at z; omega) (ms_oR_i xf_24_0 ?_))))
    rw [show nI p + 1 = nI (p + 1) from ms_p1 1]
    refine ms_c1_i (k_isSeen hY (by omega) hd) (ms_ifT (fun hg => ?_) (fun hg => ?_))
    · refine ih (p + 1) Y (by omega) ⟨hr.1, hr.2.1, hr.2.2.1, fun m hm => ?_⟩
      rw [tg_no (by rw [hg]; decide)]
      exact hr.2.2.2 m hm
    · refine mx_v1 (k_sourcesOf hY hL hpa hd (hr.2.1 p hpa).1) (fun Z v fz ⟨e1, e2, e3⟩ => ?_)
      rw [e1]
      have eZ : ∀ c, 26 ≤ c → c ≤ 32 → ∀ n, cx_a Z c n = cx_a Y c n := fun c h1 h2 n => (fz.1 c (by
        unfold fO
        rw [fL_C c (fC_no hL (by omega)), decide_eq_false (by omega)]
        rfl)).2 n
      have hrZ : RA1 A day p X Z := by
        refine ⟨fr_t hr.1 (fr_s fz (fun c hc => fO_A c (fA_E c hc))), ?_, fun q hq hs => SE_eq (hr.2.2.1 q hq hs) (eZ _ (by omega) (by omega) _) (eZ _ (by omega) (by omega) _) (eZ _ (by omega) (by omega) _) (fun j _ => eZ _ (by omega) (by omega) _), fun m hm => by rw [eZ _ (by omega) (by omega)]; exact hr.2.2.2 m hm⟩
        intro q hq
        obtain ⟨g1, g2, g3⟩ := hr.2.1 q hq
        refine ⟨?_, ?_, ?_⟩
        · by_cases hqp : q = p
          · rw [hqp]; exact Or.inr e2
          · rw [e3 q hqp]; exact g1
        · rw [eZ _ (by omega) (by omega)]
          refine g2.imp id (fun ⟨x, hx, hs⟩ => ⟨x, hx, SE_eq hs (eZ _ (by omega) (by omega) _) (eZ _ (by omega) (by omega) _) (eZ _ (by omega) (by omega) _) (fun j _ => eZ _ (by omega) (by omega) _)⟩)
        · rw [eZ _ (by omega) (by omega)]
          refine g3.imp id (fun ⟨x, hx, r1, r2⟩ => ⟨x, hx, by rw [eZ _ (by omega) (by omega)]; exact r1, fun k hk => by rw [eZ _ (by omega) (by omega)]; exact r2 k hk⟩)
      have hZ := h.fr hrZ.1
      -- the join
      have join : ∀ W, RA1 A day p X W → RE A 24 W p (sbits A p day) → ms_c0 (ms_Cl (d + 6) 61 [.ref 24, .int (nI p * 13)] (ms_x W t)) fun g10 => ms_V cd_X3_reachAll none 0 (ms_Cl (d + 6)) (fN fE X t (RA1 A day (ab_p A) X)) 18 [(0, .ref 24), (1, .int (nI day)), (2, .int (nI (p + 1)))] [] g10 := by
        intro W hrW hre
        rw [show nI p * 13 = nI (p * 13) from nI_mul p 13]
        refine mx_n0 (k_joinLooked (d := d + 5) (f := lkr A p (ab_src A p day)) (g := tg A day p) (by omega) (fun k hk => ⟨?_, lkr_n_le _⟩) (fun m hm => ⟨hrW.2.2.2 m hm, tg_le p⟩)) (fun V fv hv => ?_)
        · have := hre.2 k hk
          rw [sb_sl] at this
          exact this
        · have eV : ∀ c, c ≠ 32 → ∀ n, cx_a V c n = cx_a W c n := fun c hc n => (fv.1 c (decide_eq_false hc)).2 n
          refine ih (p + 1) V (by omega) ⟨fr_t hrW.1 (fr_s fv fE_J), ?_, fun q hq hs => SE_eq (hrW.2.2.1 q hq hs) (eV _ (by omega) _) (eV _ (by omega) _) (eV _ (by omega) _) (fun j _ => eV _ (by omega) _), fun m hm => by rw [tg_fin hg]; exact hv m hm⟩
          intro q hq
          obtain ⟨g1, g2, g3⟩ := hrW.2.1 q hq
          refine ⟨?_, ?_, ?_⟩
          · rw [eV _ (by omega)]; exact g1
          · rw [eV _ (by omega)]
            refine g2.imp id (fun ⟨x, hx, hs⟩ => ⟨x, hx, SE_eq hs (eV _ (by omega) _) (eV _ (by omega) _) (eV _ (by omega) _) (fun j _ => eV _ (by omega) _)⟩)
          · rw [eV _ (by omega)]
            refine g3.imp id (fun ⟨x, hx, r1, r2⟩ => ⟨x, hx, by rw [eV _ (by omega)]; exact r1, fun k hk => by rw [eV _ (by omega)]; exact r2 k hk⟩)
      simp only [xf_24_5, ms_oR_e, cA_r cA_27]
      refine ⟨ms_in (by omega) (by decide), ?_⟩
      rw [ms_nc (by omega)]
      refine ms_ite2 (fun z => ?_) (fun z => ?_)
      · refine join Z hrZ ?_
        rcases (hrZ.2.1 p hpa).2.2 with g | ⟨x, hx, g⟩
        · rw [show cx_a Z 27 p = cx_a Z (24 + 3) p from rfl, g] at z
          exact absurd z.symm (nI_m1 hsb)
        · have hxe : x = sbits A p day := nI_16 hx hsb (by rw [← g.1, show cx_a Z (24 + 3) p = cx_a Z 27 p from rfl, z])
          rw [← hxe]
          exact g
      · simp only [xf_24_2, xf_24_0, ms_oR_e]
        refine mx_n0 (k_load hZ hpa hsb (fun o ho => sb_p ho) sb_9) (fun W fw hck => ?_)
        have hrW : RA1 A day p X W := RA1_k h hrZ fw (fun c h1 h2 => fC_no hL (by omega)) fC_E
        have hseW := hrW.2.2.1 p hpa hg
        simp only [xf_24_2, xf_24_9, xf_24_6, ms_oR_e, cA_r cA_28]
        refine ⟨ms_in (by omega) (by decide), ?_⟩
        have h28 : cx_a W 28 p = nI (lb A p (sl (sbits A p day))).1 := hseW.2.1
        rw [ms_nc (by omega), h28, show nI p * 13 = nI (p * 13) from nI_mul p 13, show nI (lb A p (sl (sbits A p day))).1 + 40 = nI ((lb A p (sl (sbits A p day))).1 + 40) from ms_p1 40]
        have hb1 := (lb_le (A := A) (p := p) (S := sl (sbits A p day)) sb_9 hn).1
        unfold NW at hb1
        refine mx_n0 (k_tellLooked (d := d + 2) hck hn (by omega) (by omega)) (fun V fv ⟨v1, v2⟩ => ?_)
        simp only [xf_24_5, ms_oR_e, cA_w cA_27]
        refine ⟨ms_in (by omega) (by decide), ?_⟩
        rw [ms_nc (by omega), show nI (p * 13) = nI p * 13 from (nI_mul p 13).symm]
        have eV : ∀ c, 25 ≤ c → c ≤ 32 → c ≠ 31 → ∀ n, cx_a V c n = cx_a W c n := fun c h1 h2 h3 n => (fv.1 c (fTc_n (by omega) h3)).2 n
        have key : ∀ c n, 25 ≤ c → c ≤ 32 → c ≠ 31 → (c ≠ 27 ∨ n ≠ p) → cx_a (cx_ua V 27 p (nI (sbits A p day))) c n = cx_a W c n := fun c n h1 h2 h3 h4 => by
          rw [cx_a_ua, if_neg (by omega)]
          exact eV c h1 h2 h3 n
        have hre : RE A 24 (cx_ua V 27 p (nI (sbits A p day))) p (sbits A p day) := by
          refine ⟨by rw [cx_a_ua, if_pos ⟨rfl, rfl⟩], fun k hk => ?_⟩
          rw [cx_a_ua, if_neg (by omega)]
          exact v1 k hk
        refine join _ ⟨fr_a (fr_t hrW.1 (fr_s fv (fun c hc => fTc_n (by have := of_decide_eq_false hc; omega) (by have := of_decide_eq_false hc; omega)))) (by decide), ?_, fun q hq hs => SE_eq (hrW.2.2.1 q hq hs) (key _ _ (by omega) (by omega) (by omega) (by omega)) (key _ _ (by omega) (by omega) (by omega) (by omega)) (key _ _ (by omega) (by omega) (by omega) (by omega)) (fun j _ => key _ _ (by omega) (by omega) (by omega) (by omega)), fun m hm => by rw [key _ _ (by omega) (by omega) (by omega) (by omega)]; exact hrW.2.2.2 m hm⟩ hre
        intro q hq
        obtain ⟨g1, g2, g3⟩ := hrW.2.1 q hq
        refine ⟨?_, ?_, ?_⟩
        · rw [key _ _ (by omega) (by omega) (by omega) (by omega)]; exact g1
        · rw [key _ _ (by omega) (by omega) (by omega) (by omega)]
          refine g2.imp id (fun ⟨x, hx, hs⟩ => ⟨x, hx, SE_eq hs (key _ _ (by omega) (by omega) (by omega) (by omega)) (key _ _ (by omega) (by omega) (by omega) (by omega)) (key _ _ (by omega) (by omega) (by omega) (by omega)) (fun j _ => key _ _ (by omega) (by omega) (by omega) (by omega))⟩)
        · by_cases hqp : q = p
          · rw [hqp]
            exact Or.inr ⟨_, hsb, hre⟩
          · rw [key _ _ (by omega) (by omega) (by omega) (Or.inr hqp)]
            refine g3.imp id (fun ⟨x, hx, r1, r2⟩ => ⟨x, hx, by rw [key _ _ (by omega) (by omega) (by omega) (Or.inr hqp)]; exact r1, fun k hk => ?_⟩)
            rw [cx_a_ua, if_neg (by omega)]
            have := v2 (q * 13 + k) (by omega)
            exact this.trans (r2 k hk)
/-- what lookers answers -/
def lk_an (A : ab_T) (q j w v : Int32) : Prop := if ms_ix 41 q && ms_ix 100 j && ms_ix 2 w then ∃ n, n < 121 ∧ v = nI n ∧ LKa A j.toNatClampNeg q.toNatClampNeg w.toNatClampNeg n else v = -1
theorem k_lookers (h : CX A 6 X t) (hC : LC A 24 X) {u : Int32} : ms_H' (d + 8) 119 [.ref 0, .int q, .int w, .int u] (ms_x X t) (fV fE X t (fun v Y => lk_an A q w u v ∧ LC A 24 Y)) := by
  refine mx_m (fun a b c => m_X8_lookers a b ⟨_, xo_0⟩ c) fV_l (b_X8_lookers_0 (ms_c1_i (k_within 40 (by decide)) ?_))
  unfold lk_an
  refine ms_ifT (fun hg => ?_) (fun hg => ?_)
  · rw [hg]
    exact ⟨X, _, fr_0, rfl, rfl, rfl, hC⟩
  rw [hg, Bool.true_and]
  refine ms_c1_i (k_within 99 (by decide)) (ms_ifT (fun hv => ?_) (fun hv => ?_))
  · rw [hv]
    exact ⟨X, _, fr_0, rfl, rfl, rfl, hC⟩
  rw [hv, Bool.true_and]
  refine ms_c1_i (k_within 1 (by decide)) (ms_ifT (fun hu => ?_) (fun hu => ?_))
  · rw [hu]
    exact ⟨X, _, fr_0, rfl, rfl, rfl, hC⟩
  obtain ⟨s, hs, rfl, e1, _⟩ := ms_ix_k hg
  obtain ⟨j, hj, rfl, e2, _⟩ := ms_ix_k hv
  obtain ⟨n, hn, rfl, e3, _⟩ := ms_ix_k hu
  rw [hu, e1, e2, e3]
  have hw1 := h.w.1
  simp only [xf_0_5, xf_0_2, ms_oR_e]
  refine ms_oI_i (k_pc h) (mx_n0 (k_sett (i := 0) h hC (Nat.zero_le _) (Nat.le_refl _) (by omega)) (fun Y fy ⟨hc, hse⟩ => ?_))
  have hY := h.fr fy
  simp only [xf_0_5, ms_oR_e]
  refine mx_n0 (k_reachAll hY hc (all_SE hse) (by omega)) (fun Z fz ⟨f1, f2, f3, f4⟩ => ?_)
  have hZ := hY.fr fz
  simp only [xf_0_5, ms_oR_e]
  refine ms_c1_i (k_sumOfAll hZ LO_24 (by omega) (fun p hp hs => by have := (f3 p hp hs).2.1; rw [sb_sl] at this; exact this)) ?_
  obtain ⟨v, l1, l2, l3⟩ := lw_LKa (day := j) (w := n) (s := s) h.w (by omega)
  have hts : ab_ts A j = sm (ab_lp A j) (ab_p A) := rfl
  have hle := lp_le (day := j) (p := ab_p A) h.w
  have hle2 : ab_p A * 69000 ≤ 16 * 69000 := Nat.mul_le_mul_right _ hw1.2.1
  rw [hts, ms_p1]
  have fin : ms_c1 (ms_Cl (d + 7) 62 [.ref 24, .int (nI (sm (ab_lp A j) (ab_p A) + s)), .int (ms_bi (decide (n = 1)))] (ms_x Z t)) fun r18 g17 => fV fE X t (fun v Y => (if true = true then ∃ m, m < 121 ∧ v = nI m ∧ LKa A j s n m else v = -1) ∧ LC A 24 Y) (some (.int r18)) g17 := by
    refine ms_c1_i (k_lookedWithin (d := d + 6) (g := tg A j (ab_p A)) (fun m hm => ⟨f4 m hm, tg_le _⟩) (by omega)) ?_
    refine ⟨Z, _, fr_t fy fz, rfl, rfl, ?_, f2⟩
    rw [if_pos rfl]
    exact ⟨v, l2, by rw [l1]; rfl, l3⟩
  have h01 : n = 0 ∨ n = 1 := by omega
  rcases h01 with rfl | rfl
  · exact ms_no (by decide) fin
  · exact ms_yes rfl fin
end Lkb
