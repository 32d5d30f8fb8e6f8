/-! THE CLASS'S LAWS: what they tell of slips, looks, births, opens, bars; written by wip/whole/mdl.py from laws.txt -/
def lq_T (A : ab_T) (X : cx_T) (i : Nat) : cx_T := cx_ua (cx_ua (cx_ua (cx_sa X 13 (ms_fill (cx_a X 13) 12 0)) 13 5 (nI i)) 13 6 (nI (ab_th A i 4))) 13 11 (ms_bi (ab_gh A i))
def lq_P (A : ab_T) (X : cx_T) (p o : Nat) : cx_T := cx_ua (cx_ua (cx_ua (cx_sa X 13 (ms_fill (cx_a X 13) 12 0)) 13 3 (nI (ab_pa A p 0))) 13 4 (nI (ab_pa A p 0) - nI (ab_pa A o 0))) 13 10 (if ab_pa A p 1 = ab_pa A o 1 then 1 else 0)
section Laws
variable {d b i j f u v p o e m : Nat} {X Y : cx_T} {t : ms_S} {A : ab_T}
theorem CX.ua (h : CX A b X t) {c n : Nat} {x : Int32} : CX A b (cx_ua X c n x) t := h.fr (fr_a (S := fun _ => true) fr_0 rfl)
theorem CX.sa (h : CX A b X t) {c : Nat} {f : Nat → Int32} : CX A b (cx_sa X c f) t := h.fr (fr_sa (S := fun _ => true) fr_0 rfl)
theorem CX.ui (h : CX A b X t) {c n : Nat} {x : Int32} : CX A b (cx_ui X c n x) t := h.fr (fr_i (S := fun _ => true) fr_0 rfl)
theorem cx_a_sa {c : Nat} {f : Nat → Int32} {n : Nat} : cx_a (cx_sa X c f) c n = f n := by
  unfold cx_a cx_sa
  simp only [if_true]
theorem lq_T_fr : cx_fr fL X (lq_T A X i) := fr_a (fr_a (fr_a (fr_sa fr_0 rfl) rfl) rfl) rfl
theorem lq_P_fr : cx_fr fL X (lq_P A X p o) := fr_a (fr_a (fr_a (fr_sa fr_0 rfl) rfl) rfl) rfl
theorem lq_T_13 {k : Nat} (hk : k < 12) : cx_a (lq_T A X i) 13 k = en_T A i k := by
  unfold lq_T en_T
  simp only [cx_a_ua, cx_a_sa, true_and, ms_fill, hk, if_true]
theorem lq_P_13 {k : Nat} (hk : k < 12) : cx_a (lq_P A X p o) 13 k = en_P A p o k := by
  unfold lq_P en_P
  simp only [cx_a_ua, cx_a_sa, true_and, ms_fill, hk, if_true]
  by_cases h1 : k = 10
  · subst h1; rfl
  · rw [if_neg h1, if_neg h1]
    by_cases h2 : k = 4
    · subst h2; rfl
    · rw [if_neg h2, if_neg h2]
theorem k_fill13 : ms_Cl (d + 1) 274 [.ref 13, .int 0] (ms_x X t) none (ms_x (cx_sa X 13 (ms_fill (cx_a X 13) 12 0)) t) := cx_fill (c := 13) (n := 12) (fun _ => rfl) (fun _ _ => rfl) (by decide) (by decide)
theorem k_askThing (h : CX A b X t) (hi : i < ab_t A) : ms_Cl (d + 3) 45 [.ref 12, .ref b, .int (nI i)] (ms_x X t) none (ms_x (lq_T A X i) t) := by
  refine m_X2_askThing ms_x_l ms_x_t ⟨_, xo_12⟩ (b_X2_askThing_0 (Q := ms_lf _ _) ?_)
  simp only [xf_12_0, ms_oR_e]
  refine ms_c0_i k_fill13 ?_
  simp only [xf_12_0, ms_oR_e, xw_13]
  refine ⟨(by unfold vp_in; decide), ?_⟩
  refine ms_c1_i (k_ofThing (j := 4) h.sa.ua hi (by decide)) ?_
  simp only [xf_12_0, ms_oR_e, xw_13]
  refine ⟨(by unfold vp_in; decide), ?_⟩
  refine ms_c1_i (k_isGhost h.sa.ua.ua hi) ?_
  refine ms_ifT (fun hg => ?_) (fun hg => ?_)
  · simp only [xw_13]
    refine ⟨(by unfold vp_in; decide), rfl, ?_⟩
    unfold lq_T
    rw [hg]
    rfl
  · simp only [xw_13]
    refine ⟨(by unfold vp_in; decide), rfl, ?_⟩
    unfold lq_T
    rw [hg]
    rfl
theorem k_askPapers (h : CX A b X t) (hp : p < ab_p A) (ho : o < ab_p A) : ms_Cl (d + 3) 46 [.ref 12, .ref b, .int (nI p), .int (nI o)] (ms_x X t) none (ms_x (lq_P A X p o) t) := by
  refine m_X2_askPapers ms_x_l ms_x_t ⟨_, xo_12⟩ (b_X2_askPapers_0 (Q := ms_lf _ _) ?_)
  simp only [xf_12_0, ms_oR_e]
  refine ms_c0_i k_fill13 ?_
  refine ms_c1_i (k_ofPaper (j := 0) h.sa hp (by decide)) ?_
  simp only [xf_12_0, ms_oR_e, xw_13]
  refine ⟨(by unfold vp_in; decide), ?_⟩
  refine ms_c1_i (k_ofPaper (j := 0) h.sa.ua hp (by decide)) ?_
  refine ms_c1_i (k_ofPaper (j := 0) h.sa.ua ho (by decide)) ?_
  simp only [xf_12_0, ms_oR_e, xw_13]
  refine ⟨(by unfold vp_in; decide), ?_⟩
  refine ms_c1_i (k_ofPaper (j := 1) h.sa.ua.ua hp (by decide)) ?_
  refine ms_c1_i (k_ofPaper (j := 1) h.sa.ua.ua ho (by decide)) ?_
  have w1 := h.w.2.2.1 p 1
  have w2 := h.w.2.2.1 o 1
  refine ms_ite2 (fun z => ?_) (fun z => ?_)
  · rw [ms_nI_eq (by omega) (by omega)] at z
    simp only [xw_13]
    refine ⟨(by unfold vp_in; decide), rfl, ?_⟩
    unfold lq_P
    rw [if_pos z]
    rfl
  · rw [ms_nI_eq (by omega) (by omega)] at z
    simp only [xw_13]
    refine ⟨(by unfold vp_in; decide), rfl, ?_⟩
    unfold lq_P
    rw [if_neg z]
    rfl
theorem tell_r_no {x : Option Int64} : (tell_r x = -1) ↔ x = none := by
  cases x with
  | none => exact ⟨fun _ => rfl, fun _ => rfl⟩
  | some y =>
    refine ⟨fun z => ?_, fun z => by cases z⟩
    have h1 := cl1000_le y
    have h2 : nI (cl1000 y) = -1 := z
    have h3 := ms_nI_0 (n := cl1000 y) (by omega)
    rw [h2] at h3
    exact absurd h3 (by decide)
theorem tells_tell {x df : Nat} {env : Nat → Int32} : (if tell_r (tx_last x env (ab_x A)) = -1 then nI df else tell_r (tx_last x env (ab_x A))) = nI (tells A x df env) := by
  unfold tells
  cases hx : tx_last x env (ab_x A) with
  | none => exact if_pos (tell_r_no.mpr rfl)
  | some y => exact if_neg (fun z => by cases tell_r_no.mp z)
theorem k_tell {x : Nat} {env : Nat → Int32} (h : CX A b X t) (hx : x < 5) (he : ∀ k, k < 12 → cx_a X 13 k = env k) : ms_H' (d + 3) 47 [.ref 12, .ref b, .int (nI (268 + x))] (ms_x X t) (fQ fL X t (tell_r (tx_last x env (ab_x A)))) := by
  obtain ⟨r, g', ⟨a, q, e1, e2⟩, hc⟩ := c2_tell (d := d) h.isb h.2.2.2 hx he
  exact ⟨r, g', ⟨_, fr_sq fr_0, e1, e2⟩, hc⟩
theorem mx_q1 {S : Nat → Bool} {y : Nat} {as : List Value} {w : Int32} {k : Int32 → ms_S → Prop} (h : ms_H' d y as (ms_x X t) (fQ S X t w)) (hk : ∀ Y, cx_fr S X Y → k w (ms_x Y t)) : ms_c1 (ms_Cl d y as (ms_x X t)) k := by
  refine mx_c1 h (fun r g' hr => ?_)
  obtain ⟨Y, hf, e1, e2⟩ := hr
  subst e1
  exact ⟨w, e2, hk Y hf⟩
theorem k_openTells (h : CX A b X t) (hp : p < ab_p A) (ho : o < ab_p A) : ms_H' (d + 4) 43 [.ref 12, .ref b, .int (nI p), .int (nI o)] (ms_x X t) (fQ fL X t (nI (ab_open A p o))) := by
  refine mx_m (fun a b c => m_X2_openTells a b ⟨_, xo_12⟩ c) (fun r g' h => ?_) (b_X2_openTells_0 ?_)
  · obtain ⟨Y, _, e, _⟩ := h
    rw [e]
    exact ⟨ms_x_l, ms_x_t⟩
  refine ms_c0_i (k_askPapers h hp ho) ?_
  refine mx_q1 (k_tell (x := 2) (h.fr lq_P_fr) (by decide) (fun k hk => lq_P_13 hk)) (fun Y hf => ?_)
  have e := tells_tell (A := A) (x := 2) (df := 3) (env := en_P A p o)
  refine ms_ite2 (fun z => ?_) (fun z => ?_)
  · rw [if_pos z] at e
    exact ⟨Y, fr_t lq_P_fr hf, rfl, by unfold ab_open; rw [← e]; rfl⟩
  · rw [if_neg z] at e
    exact ⟨Y, fr_t lq_P_fr hf, rfl, by unfold ab_open; rw [← e]⟩
theorem k_bars (h : CX A b X t) (hp : p < ab_p A) (ho : o < ab_p A) : ms_H' (d + 4) 44 [.ref 12, .ref b, .int (nI p), .int (nI o)] (ms_x X t) (fQ fL X t (ms_bi (ab_bars A p o))) := by
  refine mx_m (fun a b c => m_X2_bars a b ⟨_, xo_12⟩ c) (fun r g' h => ?_) (b_X2_bars_0 ?_)
  · obtain ⟨Y, _, e, _⟩ := h
    rw [e]
    exact ⟨ms_x_l, ms_x_t⟩
  refine ms_c0_i (k_askPapers h hp ho) ?_
  refine mx_q1 (k_tell (x := 4) (h.fr lq_P_fr) (by decide) (fun k hk => lq_P_13 hk)) (fun Y hf => ?_)
  unfold ab_bars
  refine ms_ite2 (fun z => ?_) (fun z => ?_)
  · rw [tell_r_no] at z
    rw [z]
    exact ⟨Or.inl rfl, Y, fr_t lq_P_fr hf, rfl, rfl⟩
  · rw [tell_r_no] at z
    refine ⟨Or.inr rfl, Y, fr_t lq_P_fr hf, rfl, ?_⟩
    rw [Option.isSome_iff_ne_none.mpr z]
    rfl
theorem k_entryTells {x df : Nat} (h : CX A b X t) (he : e < ab_e A) (hx : x < 5) : ms_H' (d + 4) 42 [.ref 12, .ref b, .int (nI e), .int (nI (268 + x)), .int (nI df)] (ms_x X t) (fQ fL X t (nI (tells A x df (en_E A (ab_en A e 1) (ab_en A e 0))))) := by
  refine mx_m (fun a b c => m_X2_entryTells a b ⟨_, xo_12⟩ c) (fun r g' h => ?_) (b_X2_entryTells_0 ?_)
  · obtain ⟨Y, _, e, _⟩ := h
    rw [e]
    exact ⟨ms_x_l, ms_x_t⟩
  obtain ⟨hp, hi⟩ := h.w.2.2.2.2.1 e he
  refine ms_c1_i (k_thingOf h he) ?_
  refine ms_c0_i (k_askThing h hi) ?_
  have h2 := h.fr (lq_T_fr (A := A) (X := X) (i := ab_en A e 1))
  simp only [xf_12_0, ms_oR_e]
  refine ms_c1_i (k_paperOf h2 he) ?_
  refine ms_c1_i (k_ofPaper (j := 0) h2 hp (by decide)) ?_
  simp only [xw_13]
  refine ⟨(by unfold vp_in; decide), ?_⟩
  refine mx_q1 (k_tell (x := x) (env := en_E A (ab_en A e 1) (ab_en A e 0)) h2.ua hx (fun k hk => ?_)) (fun Y hf => ?_)
  · unfold en_E
    rw [cx_a_ua]
    by_cases hk3 : k = 3
    · rw [if_pos hk3, if_pos ⟨rfl, hk3⟩]
    · rw [if_neg hk3, if_neg (fun z => hk3 z.2)]
      exact lq_T_13 hk
  have e := tells_tell (A := A) (x := x) (df := df) (env := en_E A (ab_en A e 1) (ab_en A e 0))
  have hfr : cx_fr fL X Y := fr_t (fr_a lq_T_fr rfl) hf
  refine ms_ite2 (fun z => ?_) (fun z => ?_)
  · rw [if_pos z] at e
    exact ⟨Y, hfr, rfl, by rw [← e]⟩
  · rw [if_neg z] at e
    exact ⟨Y, hfr, rfl, by rw [← e]⟩
theorem k_birthCosts (h : CX A b X t) (he : e < ab_e A) : ms_H' (d + 5) 40 [.ref 12, .ref b, .int (nI e)] (ms_x X t) (fQ fL X t (nI (ab_birth A e))) := by
  refine mx_m (fun a b c => m_X2_birthCosts a b ⟨_, xo_12⟩ c) (fun r g' h => ?_) (b_X2_birthCosts_0 ?_)
  · obtain ⟨Y, _, e, _⟩ := h
    rw [e]
    exact ⟨ms_x_l, ms_x_t⟩
  exact mx_q1 (k_entryTells (x := 3) (df := 20) h he (by decide)) (fun Y hf => ⟨Y, hf, rfl, rfl⟩)
theorem en_S_k {k : Nat} : en_S A i f u v k = if k = 2 then nI v else if k = 1 then nI u else if k = 0 then nI f else if k = 7 ∧ k_kind u v = 1 ∨ k = 8 ∧ k_kind u v = 2 ∨ k = 9 ∧ k_kind u v = 3 then 1 else en_T A i k := by
  unfold en_S
  by_cases h0 : k = 0
  · subst h0; rfl
  · by_cases h1 : k = 1
    · subst h1; rfl
    · by_cases h2 : k = 2
      · subst h2; rfl
      · simp only [h0, h1, h2, if_false]
theorem k_kind_5 : k_kind u v = 0 ∨ k_kind u v = 1 ∨ k_kind u v = 2 ∨ k_kind u v = 3 ∨ k_kind u v = 4 := by
  unfold k_kind
  repeat' split
  all_goals simp
theorem k_slipTells (h : CX A b X t) (hi : i < ab_t A) (hf : f < 4) (hu : u < 10000) (hv : v < 10000) (hne : u ≠ v) : ms_H' (d + 4) 41 [.ref 12, .ref b, .int (nI i), .int (nI f), .int (nI u), .int (nI v)] (ms_x X t) (fQ fL X t (nI (ab_slip A i f u v))) := by
  refine mx_m (fun a b c => m_X2_slipTells a b ⟨_, xo_12⟩ c) (fun r g' h => ?_) (b_X2_slipTells_0 ?_)
  · obtain ⟨Y, _, e, _⟩ := h
    rw [e]
    exact ⟨ms_x_l, ms_x_t⟩
  have w := h.w
  have w1 := w.1
  have hxc := h.2.2.1.1.2.2.2
  refine ms_oI_i (ms_fldI_of h.bk.1 rfl) ?_
  unfold ab_slip
  rw [if_neg hne]
  have hsome : ∀ Y : cx_T, fQ fL X t (nI (tells A 0 9 (en_S A i f u v))) = fQ fL X t (nI (tells A 0 9 (en_S A i f u v))) := fun _ => rfl
  refine ms_ite2 (fun z => ?_) (fun z => ?_)
  · rw [hxc, show (0 : Int32) = nI 0 from rfl, ms_nI_eq (by omega) (by decide)] at z
    refine ⟨X, fr_0, rfl, ?_⟩
    unfold tells tx_last
    rw [List.length_eq_zero_iff.mp z]
    rfl
  refine ms_c0_i (k_askThing h hi) ?_
  have h2 := h.fr (lq_T_fr (A := A) (X := X) (i := i))
  simp only [xf_12_0, ms_oR_e, xw_13]
  refine ⟨(by unfold vp_in; decide), (by unfold vp_in; decide), (by unfold vp_in; decide), ?_⟩
  refine ms_c1_i (c8_slipKind (by omega) (by omega)) ?_
  generalize hY : cx_ua (cx_ua (cx_ua (lq_T A X i) 13 (Int32.toNatClampNeg 0) (nI f)) 13 (Int32.toNatClampNeg 1) (nI u)) 13 (Int32.toNatClampNeg 2) (nI v) = Y
  have hY3 : CX A b Y t := by rw [← hY]; exact h2.ua.ua.ua
  have hYf : cx_fr fL X Y := by rw [← hY]; exact fr_a (fr_a (fr_a lq_T_fr rfl) rfl) rfl
  have hYa : ∀ k, k < 12 → cx_a Y 13 k = if k = 2 then nI v else if k = 1 then nI u else if k = 0 then nI f else en_T A i k := by
    intro k hk
    rw [← hY]
    simp only [cx_a_ua, true_and]
    rw [lq_T_13 hk]
    rfl
  have hend : ∀ Y2 : cx_T, cx_fr fL X Y2 → CX A b Y2 t → (∀ k, k < 12 → cx_a Y2 13 k = en_S A i f u v k) → ms_c1 (ms_Cl (d + 3) 47 [.ref 12, .ref b, .int 268] (ms_x Y2 t)) fun r g => if r = -1 then fQ fL X t (nI (tells A 0 9 (en_S A i f u v))) (some (.int 9)) g else fQ fL X t (nI (tells A 0 9 (en_S A i f u v))) (some (.int r)) g := by
    intro Y2 hf2 hc2 ha2
    refine mx_q1 (k_tell (x := 0) hc2 (by decide) ha2) (fun Z hz => ?_)
    have e := tells_tell (A := A) (x := 0) (df := 9) (env := en_S A i f u v)
    refine ms_ite2 (fun z => ?_) (fun z => ?_)
    · rw [if_pos z] at e
      exact ⟨Z, fr_t hf2 hz, rfl, by rw [← e]; rfl⟩
    · rw [if_neg z] at e
      exact ⟨Z, fr_t hf2 hz, rfl, by rw [← e]⟩
  have hup : ∀ n : Nat, n < 12 → (n = 7 ∧ k_kind u v = 1 ∨ n = 8 ∧ k_kind u v = 2 ∨ n = 9 ∧ k_kind u v = 3) → ∀ k, k < 12 → cx_a (cx_ua Y 13 n 1) 13 k = en_S A i f u v k := by
    intro n hn hq k hk
    rw [cx_a_ua, en_S_k, hYa k hk]
    by_cases hkn : k = n
    · rw [if_pos ⟨rfl, hkn⟩, if_neg (by omega), if_neg (by omega), if_neg (by omega), if_pos (by rw [hkn]; exact hq)]
    · rw [if_neg (fun z => hkn z.2)]
      have : ¬ (k = 7 ∧ k_kind u v = 1 ∨ k = 8 ∧ k_kind u v = 2 ∨ k = 9 ∧ k_kind u v = 3) := by
        intro z
        rcases hq with ⟨q1, q2⟩ | ⟨q1, q2⟩ | ⟨q1, q2⟩ <;> rw [q2] at z <;> rcases z with ⟨z1, z2⟩ | ⟨z1, z2⟩ | ⟨z1, z2⟩ <;> first | exact absurd z2 (by decide) | omega
      rw [if_neg this]
  have hno : (k_kind u v = 0 ∨ k_kind u v = 4) → ∀ k, k < 12 → cx_a Y 13 k = en_S A i f u v k := by
    intro hq k hk
    rw [en_S_k, hYa k hk]
    have : ¬ (k = 7 ∧ k_kind u v = 1 ∨ k = 8 ∧ k_kind u v = 2 ∨ k = 9 ∧ k_kind u v = 3) := by
      intro z
      rcases hq with q2 | q2 <;> rw [q2] at z <;> rcases z with ⟨z1, z2⟩ | ⟨z1, z2⟩ | ⟨z1, z2⟩ <;> exact absurd z2 (by decide)
    rw [if_neg this]
  rcases k_kind_5 (u := u) (v := v) with q | q | q | q | q
  · have hno := hno (Or.inl q)
    rw [q]
    exact ms_yes (by decide) (hend Y hYf hY3 hno)
  · have hup := hup 7 (by decide) (Or.inl ⟨rfl, q⟩)
    rw [q]
    refine ms_no (by decide) (ms_no (by decide) ?_)
    exact ⟨(by unfold vp_in; decide), hend _ (fr_a hYf rfl) hY3.ua hup⟩
  · have hup := hup 8 (by decide) (Or.inr (Or.inl ⟨rfl, q⟩))
    rw [q]
    refine ms_no (by decide) (ms_no (by decide) ?_)
    exact ⟨(by unfold vp_in; decide), hend _ (fr_a hYf rfl) hY3.ua hup⟩
  · have hup := hup 9 (by decide) (Or.inr (Or.inr ⟨rfl, q⟩))
    rw [q]
    refine ms_no (by decide) (ms_no (by decide) ?_)
    exact ⟨(by unfold vp_in; decide), hend _ (fr_a hYf rfl) hY3.ua hup⟩
  · have hno := hno (Or.inr q)
    rw [q]
    exact ms_no (by decide) (ms_yes (by decide) (hend Y hYf hY3 hno))
theorem k_sumStep {a s x : Nat} : nI a + nI x + nI s = nI (a + x + s) := by rw [ms_p1, ms_p1]
theorem k_slipsBetween {a : Nat} (h : CX A b X t) (ha : a < ab_e A) (he : e < ab_e A) : ms_H' (d + 5) 38 [.ref 12, .ref b, .int (nI a), .int (nI e)] (ms_x X t) (fQ fL X t (nI (ab_slips A a e))) := by
  refine mx_m (fun a b c => m_X2_slipsBetween a b ⟨_, xo_12⟩ c) (fun r g' h => ?_) (b_X2_slipsBetween_0 ?_)
  · obtain ⟨Y, _, e, _⟩ := h
    rw [e]
    exact ⟨ms_x_l, ms_x_t⟩
  have w := h.w
  obtain ⟨hp, hi⟩ := w.2.2.2.2.1 e he
  refine ms_c1_i (k_thingOf h he) ?_
  suffices H : ∀ r s Y, s + r = 4 → cx_fr fL X Y → ms_V cd_X2_slipsBetween none 1 (ms_Cl (d + 4)) (fQ fL X t (nI (ab_slips A a e))) 14 [(0, .ref 12), (1, .ref b), (2, .int (nI a)), (3, .int (nI e)), (4, .int (nI (ab_en A e 1))), (5, .int (nI (sm (fun f => ab_slip A (ab_en A e 1) f (ab_en A a (2 + f)) (ab_en A e (2 + f))) s))), (6, .int (nI s))] [] (ms_x Y t) from H 4 0 X rfl fr_0
  intro r
  induction r with
  | zero =>
    intro s Y hs hf
    have hs4 : s = 4 := by omega
    subst hs4
    exact b_X2_slipsBetween_14 (ms_yes (by decide) ⟨Y, hf, rfl, rfl⟩)
  | succ r ih =>
    intro s Y hs hf
    have hY := h.fr hf
    have w1 := w.2.2.2.1 a (2 + s)
    have w2 := w.2.2.2.1 e (2 + s)
    refine b_X2_slipsBetween_14 (ms_no ?_ ?_)
    · rw [show (4 : Int32) = nI 4 from rfl, ms_nle (by decide) (by omega)]
      omega
    refine ms_c1_i (k_fieldOf hY ha (by omega)) ?_
    refine ms_c1_i (k_fieldOf hY he (by omega)) ?_
    have es : sm (fun f => ab_slip A (ab_en A e 1) f (ab_en A a (2 + f)) (ab_en A e (2 + f))) (s + 1) = sm (fun f => ab_slip A (ab_en A e 1) f (ab_en A a (2 + f)) (ab_en A e (2 + f))) s + ab_slip A (ab_en A e 1) s (ab_en A a (2 + s)) (ab_en A e (2 + s)) := rfl
    refine ms_ite2 (fun z => ?_) (fun z => ?_)
    · rw [ms_nI_eq (by omega) (by omega)] at z
      have k := ih (s + 1) Y (by omega) hf
      rw [es] at k
      rw [show ab_slip A (ab_en A e 1) s (ab_en A a (2 + s)) (ab_en A e (2 + s)) = 0 from if_pos z, Nat.add_zero, ← ms_p1 (p := s) 1] at k
      exact k
    · rw [ms_nI_eq (by omega) (by omega)] at z
      refine mx_q1 (k_slipTells hY hi (by omega) w1 w2 z) (fun Z hz => ?_)
      have k := ih (s + 1) Z (by omega) (fr_t hf hz)
      rw [es, ← ms_p1, ← ms_p1] at k
      exact k
theorem k_lookCosts (h : CX A b X t) (he : e < ab_e A) : ms_H' (d + 5) 39 [.ref 12, .ref b, .int (nI e)] (ms_x X t) (fQ fL X t (nI (ab_lookc A e))) := by
  refine mx_m (fun a b c => m_X2_lookCosts a b ⟨_, xo_12⟩ c) (fun r g' h => ?_) (b_X2_lookCosts_0 ?_)
  · obtain ⟨Y, _, e, _⟩ := h
    rw [e]
    exact ⟨ms_x_l, ms_x_t⟩
  have w := h.w
  obtain ⟨hp, hi⟩ := w.2.2.2.2.1 e he
  refine ms_c1_i (k_thingOf h he) ?_
  refine mx_q1 (k_entryTells (x := 1) (df := 5) h he (by decide)) (fun Y0 hf0 => ?_)
  suffices H : ∀ r s Y, s + r = 4 → cx_fr fL X Y → ms_V cd_X2_lookCosts none 1 (ms_Cl (d + 4)) (fQ fL X t (nI (ab_lookc A e))) 22 [(0, .ref 12), (1, .ref b), (2, .int (nI e)), (3, .int (nI (ab_en A e 1))), (4, .int (nI (tells A 1 5 (en_E A (ab_en A e 1) (ab_en A e 0)) + sm (fun f => ab_slip A (ab_en A e 1) f (ab_th A (ab_en A e 1) f) (ab_en A e (2 + f))) s))), (5, .int (nI s))] [] (ms_x Y t) from H 4 0 Y0 rfl hf0
  intro r
  induction r with
  | zero =>
    intro s Y hs hf
    have hs4 : s = 4 := by omega
    subst hs4
    exact b_X2_lookCosts_22 (ms_yes (by decide) ⟨Y, hf, rfl, rfl⟩)
  | succ r ih =>
    intro s Y hs hf
    have hY := h.fr hf
    have w1 := w.2.1 (ab_en A e 1) s
    have w2 := w.2.2.2.1 e (2 + s)
    refine b_X2_lookCosts_22 (ms_no ?_ ?_)
    · rw [show (4 : Int32) = nI 4 from rfl, ms_nle (by decide) (by omega)]
      omega
    refine ms_c1_i (k_ofThing hY hi (by omega)) ?_
    refine ms_c1_i (k_fieldOf hY he (by omega)) ?_
    have es : sm (fun f => ab_slip A (ab_en A e 1) f (ab_th A (ab_en A e 1) f) (ab_en A e (2 + f))) (s + 1) = sm (fun f => ab_slip A (ab_en A e 1) f (ab_th A (ab_en A e 1) f) (ab_en A e (2 + f))) s + ab_slip A (ab_en A e 1) s (ab_th A (ab_en A e 1) s) (ab_en A e (2 + s)) := rfl
    refine ms_ite2 (fun z => ?_) (fun z => ?_)
    · rw [ms_nI_eq (by omega) (by omega)] at z
      have k := ih (s + 1) Y (by omega) hf
      rw [es] at k
      rw [show ab_slip A (ab_en A e 1) s (ab_th A (ab_en A e 1) s) (ab_en A e (2 + s)) = 0 from if_pos z, Nat.add_zero, ← ms_p1 (p := s) 1] at k
      exact k
    · rw [ms_nI_eq (by omega) (by omega)] at z
      refine mx_q1 (k_slipTells hY hi (by omega) w1 w2 z) (fun Z hz => ?_)
      have k := ih (s + 1) Z (by omega) (fr_t hf hz)
      rw [es, ← Nat.add_assoc, ← ms_p1 (p := _ + _), ← ms_p1 (p := s) 1] at k
      exact k
end Laws
