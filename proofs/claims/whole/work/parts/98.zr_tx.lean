/-! THE CLASS'S Reader: a text read; copies of rows; written by wip/whole/mdl.py from zr_tx.txt -/
section Cp
variable {n s e d p a N q : Nat} {X Y Z X0 : cx_T} {t g T r : ms_S} {f : Nat → Int32} {c c0 : ms_C}
theorem ms_c3_s {R : Option Value → ms_S → Prop} {kn : ms_S → Prop} {k : Nat → ms_S → Prop} {g' : ms_S} (h : R (some (.ref a)) g') (hk : k a g') : ms_c3 R kn k := ⟨some a, g', h, hk⟩
theorem ms_c3_n {R : Option Value → ms_S → Prop} {kn : ms_S → Prop} {k : Nat → ms_S → Prop} {g' : ms_S} (h : R (some .null) g') (hk : kn g') : ms_c3 R kn k := ⟨none, g', h, hk⟩
theorem mx_app {u : ms_S} : ms_x X t ++ u = ms_x X (t ++ u) := by unfold ms_x; rw [List.append_assoc]
theorem mx_hl : (cx_c X ++ t).length = 65 + t.length := by rw [List.length_append]; rfl
theorem mx_set : (ms_x X (t ++ c0 :: r)).set (65 + t.length) c = ms_x X (t ++ c :: r) := by
  unfold ms_x
  rw [← List.append_assoc, ← List.append_assoc, List.set_append, if_neg (by rw [mx_hl]; omega), mx_hl, Nat.sub_self]
  rfl
theorem mx_get : (ms_x X (t ++ c0 :: r))[65 + t.length]? = some c0 := by
  unfold ms_x
  rw [← List.append_assoc, List.getElem?_append_right (by rw [mx_hl]; exact Nat.le_refl _), mx_hl, Nat.sub_self]
  rfl
theorem c_copyOf (ha : g[a]? = some (.inl (0, N, .inl f))) (hn : n ≤ N) (hN : N < 2 ^ 20) : ∃ f', (∀ i, i < n → f' i = f i) ∧ ms_Cl (d + 1) 276 [.ref a, .int (nI n)] g (some (.ref g.length)) (g ++ [.inl (0, n, .inl f')]) := by
  have hal := (List.getElem?_eq_some_iff.mp ha).1
  have hle : ∀ f' : Nat → Int32, g.length ≤ (g ++ [(.inl (0, n, .inl f') : ms_C)]).length := fun f' => by rw [List.length_append]; omega
  have hlt : ∀ f' : Nat → Int32, ms_tot g ≤ ms_tot (g ++ [(.inl (0, n, .inl f') : ms_C)]) := fun f' => by rw [ms_tot_app]; omega
  by_cases hq : n = N
  · subst hq
    refine ⟨f, fun _ _ => rfl, m_J7_copyOf_59c91 (hle f) (hlt f) (b_J7_copyOf_59c91_0 (Q := ms_lf _ _) (ms_aL_i ha rfl (ms_yes rfl (ms_ck_i ha (ms_cA_i (na := n) (A := .inl f) ?_ ⟨rfl, rfl⟩)))))⟩
    rw [List.getElem?_append_right (Nat.le_refl _), Nat.sub_self]
    rfl
  · refine ⟨va_cpy f (fun _ => 0) 0 0 n, fun i hi => ?_, m_J7_copyOf_59c91 (hle _) (hlt _) (b_J7_copyOf_59c91_0 (Q := ms_lf _ _) (ms_aL_i ha rfl (ms_no (fun z => ?_) ?_)))⟩
    · show (if 0 ≤ i ∧ i < 0 + n then f (0 + (i - 0)) else 0) = f i
      rw [if_pos (by omega), show 0 + (i - 0) = i by omega]
    · rw [show Int32.ofNat N = nI N from rfl, ms_nI_eq (by omega) (by omega)] at z
      exact hq z
    · refine ⟨Int32.not_lt.mpr (ms_nI_0 (by omega)), by rw [ms_nc (by omega)]; omega, ?_⟩
      rw [ms_nc (by omega)]
      have hg1 : (g ++ [(.inl (0, n, .inl (fun _ => 0)) : ms_C)])[a]? = some (.inl (0, N, .inl f)) := by rw [List.getElem?_append_left hal]; exact ha
      have hg2 : (g ++ [(.inl (0, n, .inl (fun _ => 0)) : ms_C)])[g.length]? = some (.inl (0, n, .inl (fun _ => 0))) := by
        rw [List.getElem?_append_right (Nat.le_refl _), Nat.sub_self]
        rfl
      refine b_J7_copyOf_59c91_18 (ms_aL_i hg1 rfl ?_)
      rw [if_pos (by rw [show Int32.ofNat N = nI N from rfl, ms_nlt (by omega) (by omega)]; omega)]
      refine ms_cp_i hg1 hg2 (by decide) (by decide) (Int32.not_lt.mpr (ms_nI_0 (by omega))) (by rw [ms_nc (by omega)]; show 0 + n ≤ N; omega) (by rw [ms_nc (by omega)]; show 0 + n ≤ n; omega) ⟨rfl, ?_⟩
      rw [ms_nc (by omega), List.set_append, if_neg (by omega), Nat.sub_self]
      rfl
theorem c_T_init (h : g[a]? = some (.inr (7, ms_blank 7))) : ms_Cl (d + 1) 95 [.ref a, .ref p, .ref q] g none (g.set a (.inr (7, [.ref p, .ref q]))) := by
  have hal := (List.getElem?_eq_some_iff.mp h).1
  have hb : ms_blank 7 = [.null, .null] := by decide +kernel
  rw [hb] at h
  refine m_X7_init (by rw [List.length_set]; exact Nat.le_refl _) (by rw [ms_tot_set (d := .inr (7, [.ref p, .ref q])) h rfl]; exact Nat.le_refl _) (b_X7_init_0 (Q := ms_lf _ _) (ms_wF_i h rfl (by show True; trivial) (ms_wF_i (fs := [.ref p, .null]) ?_ rfl (by show True; trivial) ⟨rfl, ?_⟩)))
  · rw [List.getElem?_set_self hal]
    rfl
  · rw [List.set_set]
    rfl
end Cp
def RTq (b : Nat → Nat) (n : Nat) (X : cx_T) (t : ms_S) (res : List cl_T ⊕ Nat) (r : Option Value) (g' : ms_S) : Prop := match res with
  | .inr p => ∃ Y, kp5 X Y ∧ g' = ms_x Y t ∧ r = some .null ∧ TC Y b n ∧ cx_i Y 3 6 = nI p
  | .inl Cs => ∃ Y T3, kp5 X Y ∧ g' = ms_x Y (t ++ T3) ∧ r = some (.ref (65 + t.length)) ∧ T3.length = 3 ∧ ms_tot T3 ≤ 1000 ∧ (∀ t' : ms_S, t'.length = t.length → tl_c (t' ++ T3) (65 + t.length) Cs)
section Tx
variable {b w w0 : Nat → Nat} {n s e f k c d D p cs cs0 lv lv0 sl j dp y F h sm cnt : Nat} {X Y Z X0 : cx_T} {t g T : ms_S} {as : List Value} {f0 f1 : dn_T} {Cs : List cl_T}
theorem RTq_l {res : List cl_T ⊕ Nat} : ∀ r g', RTq b n X t res r g' → (ms_x X t).length ≤ g'.length ∧ ms_tot (ms_x X t) ≤ ms_tot g' := by
  intro r g' h
  cases res with
  | inr p =>
    obtain ⟨Y, _, e, _⟩ := h
    rw [e]
    exact ⟨ms_x_l, ms_x_t⟩
  | inl a =>
    obtain ⟨Y, T3, _, e, _⟩ := h
    rw [e, ← mx_app]
    have h1 := ms_x_l (X := X) (Y := Y) (t := t)
    have h2 := ms_x_t (X := X) (Y := Y) (t := t)
    refine ⟨by rw [List.length_append]; omega, by rw [ms_tot_app2]; omega⟩
theorem rc_c1 {K : Int32 → ms_S → Prop} {res : pk_T} (hh : ms_H' d y as (ms_x X t) (RCq b n Cs X t res)) (hN : ∀ Y p, res = .inr p → kp5 X Y → TC Y b n → cx_i Y 3 6 = nI p → K 0 (ms_x Y t)) (hY : ∀ a Y w cs, res = .inl a → kp5 X Y → RC b n a.2.1 cs a.2.2 w (Cs ++ [a.1]) Y → K 1 (ms_x Y t)) : ms_c1 (ms_Cl d y as (ms_x X t)) K := by
  obtain ⟨r, g', hr, hc⟩ := hh
  cases res with
  | inr p =>
    obtain ⟨Y, h1, e1, e2, h2, h3⟩ := hr
    rw [e1, e2] at hc
    exact ms_c1_i hc (hN Y p rfl h1 h2 h3)
  | inl a =>
    obtain ⟨Y, w, cs, h1, e1, e2, h2⟩ := hr
    rw [e1, e2] at hc
    exact ms_c1_i hc (hY a Y w cs rfl h1 h2)
/-- the Text is made -/
theorem k_mkT {Q : Option Value → ms_S → Prop} (h : RC b n s cs lv w Cs X) (hp : kp5 X0 X) (hQ : ∀ T3, T3.length = 3 → ms_tot T3 ≤ 1000 → (∀ t' : ms_S, t'.length = t.length → tl_c (t' ++ T3) (65 + t.length) Cs) → Q (some (.ref (65 + t.length))) (ms_x X (t ++ T3))) : ms_nO (ms_x X t) 7 fun a26 g25 => ms_oR (ms_fldR g25 3 5 1) fun x27 => ms_oI (ms_fldI g25 3 5 3) fun x28 => ms_c3 (ms_Cl (D + 16) 276 [.ref x27, .int x28] g25) (fun g29 => ms_oR (ms_fldR g29 3 5 2) fun x37 => ms_oI (ms_fldI g29 3 5 4) fun x38 => ms_c3 (ms_Cl (D + 16) 276 [.ref x37, .int (4 * x38)] g29) (fun g39 => ms_c0 (ms_Cl (D + 16) 95 [.ref a26, .null, .null] g39) fun g42 => Q (some (.ref a26)) g42) fun r40 g39 => ms_c0 (ms_Cl (D + 16) 95 [.ref a26, .null, .ref r40] g39) fun g41 => Q (some (.ref a26)) g41) fun r30 g29 => ms_oR (ms_fldR g29 3 5 2) fun x31 => ms_oI (ms_fldI g29 3 5 4) fun x32 => ms_c3 (ms_Cl (D + 16) 276 [.ref x31, .int (4 * x32)] g29) (fun g33 => ms_c0 (ms_Cl (D + 16) 95 [.ref a26, .ref r30, .null] g33) fun g36 => Q (some (.ref a26)) g36) fun r34 g33 => ms_c0 (ms_Cl (D + 16) 95 [.ref a26, .ref r30, .ref r34] g33) fun g35 => Q (some (.ref a26)) g35 := by
  obtain ⟨hR, hs, hcs, hlv, hC, h4, hold⟩ := h
  have hn := hR.1.1
  have c4 : cA 4 800 := ⟨fun _ => rfl, fun _ _ _ => rfl, by decide⟩
  have c5 : cA 5 48 := ⟨fun _ => rfl, fun _ _ _ => rfl, by decide⟩
  unfold ms_nO
  rw [ms_x_len, mx_app]
  refine ms_oR_i xf_3_1 (ms_oI_i xf_3_3 ?_)
  rw [hR.2.2.1]
  obtain ⟨fa, ha1, ha2⟩ := c_copyOf (d := D + 15) (g := ms_x X (t ++ [.inr (7, ms_blank 7)])) (a := 4) (N := 800) (n := cs) (f := cx_a X 4) (cx_get (c4.1 X)) (by omega) (by decide)
  refine ms_c3_s ha2 ?_
  rw [ms_x_len, mx_app, List.append_assoc]
  refine ms_oR_i xf_3_2 (ms_oI_i xf_3_4 ?_)
  rw [h4, show (4 : Int32) * nI Cs.length = nI (4 * Cs.length) from nI_mul 4 Cs.length]
  obtain ⟨fb, hb1, hb2⟩ := c_copyOf (d := D + 15) (g := ms_x X (t ++ ([.inr (7, ms_blank 7)] ++ [.inl (0, cs, .inl fa)]))) (a := 5) (N := 48) (n := 4 * Cs.length) (f := cx_a X 5) (cx_get (c5.1 X)) (by omega) (by decide)
  refine ms_c3_s hb2 ?_
  rw [ms_x_len, mx_app, List.append_assoc]
  have hi := c_T_init (d := D + 15) (a := 65 + t.length) (p := 65 + (t ++ [(.inr (7, ms_blank 7) : ms_C)]).length) (q := 65 + (t ++ ([(.inr (7, ms_blank 7) : ms_C)] ++ [(.inl (0, cs, .inl fa) : ms_C)])).length) (g := ms_x X (t ++ .inr (7, ms_blank 7) :: ([.inl (0, cs, .inl fa)] ++ [.inl (0, 4 * Cs.length, .inl fb)]))) mx_get
  rw [mx_set] at hi
  refine ms_c0_i hi ?_
  have l1 : (t ++ [(.inr (7, ms_blank 7) : ms_C)]).length = t.length + 1 := by rw [List.length_append]; rfl
  have l2 : (t ++ ([(.inr (7, ms_blank 7) : ms_C)] ++ [(.inl (0, cs, .inl fa) : ms_C)])).length = t.length + 2 := by rw [List.length_append]; rfl
  rw [l1, l2]
  have g0 : ∀ t' : ms_S, t'.length = t.length → (t' ++ (.inr (7, [.ref (65 + (t.length + 1)), .ref (65 + (t.length + 2))]) : ms_C) :: ([.inl (0, cs, .inl fa)] ++ [.inl (0, 4 * Cs.length, .inl fb)]))[t.length]? = some (.inr (7, [.ref (65 + (t.length + 1)), .ref (65 + (t.length + 2))]))   := fun t' hl => by
    rw [List.getElem?_append_right (by omega), show t.length - t'.length = 0 by omega]
    rfl
  have g1 : ∀ t' : ms_S, t'.length = t.length → (t' ++ (.inr (7, [.ref (65 + (t.length + 1)), .ref (65 + (t.length + 2))]) : ms_C) :: ([.inl (0, cs, .inl fa)] ++ [.inl (0, 4 * Cs.length, .inl fb)]))[t.length + 1]? = some (.inl (0, cs, .inl fa))   := fun t' hl => by
    rw [List.getElem?_append_right (by omega), show t.length + 1 - t'.length = 1 by omega]
    rfl
  have g2 : ∀ t' : ms_S, t'.length = t.length → (t' ++ (.inr (7, [.ref (65 + (t.length + 1)), .ref (65 + (t.length + 2))]) : ms_C) :: ([.inl (0, cs, .inl fa)] ++ [.inl (0, 4 * Cs.length, .inl fb)]))[t.length + 2]? = some (.inl (0, 4 * Cs.length, .inl fb))   := fun t' hl => by
    rw [List.getElem?_append_right (by omega), show t.length + 2 - t'.length = 2 by omega]
    rfl
  refine hQ _ rfl ?_ ?_
  · show ms_tot [.inr (7, [.ref (65 + (t.length + 1)), .ref (65 + (t.length + 2))]), .inl (0, cs, .inl fa), .inl (0, 4 * Cs.length, .inl fb)] ≤ 1000
    show 2 + (cs + (4 * Cs.length + 0)) ≤ 1000
    omega
  · intro t' hl
    refine ⟨65 + (t.length + 1), 65 + (t.length + 2), cs, w, fb, by omega, by rw [Nat.add_sub_cancel_left]; exact g0 t' hl, ⟨by omega, fun i hi => (hR.2.2.2.2 i hi).2, fa, ⟨by omega, by rw [Nat.add_sub_cancel_left]; exact g1 t' hl⟩, fun i hi => by rw [ha1 i hi]; exact (hR.2.2.2.2 i hi).1⟩, ⟨by omega, by rw [Nat.add_sub_cancel_left]; exact g2 t' hl⟩, hC, fun i c hi => ?_⟩
    have hil := (List.getElem?_eq_some_iff.mp hi).1
    obtain ⟨q1, q2, s1, m1, e1, a1, a2, a3, q3⟩ := hold i c hi
    exact ⟨q1, by rw [hb1 _ (by omega)]; exact q2, s1, m1, e1, by rw [hb1 _ (by omega)]; exact a1, by rw [hb1 _ (by omega)]; exact a2, by rw [hb1 _ (by omega)]; exact a3, q3⟩
theorem k_read35 (hA : KA b n F 0) (hW : HW) {res : List cl_T ⊕ Nat} : ∀ (G : Nat) (X : cx_T) (s cs lv j : Nat) (w : Nat → Nat) (Cs : List cl_T), kp5 X0 X → RC b n s cs lv w Cs X → Cs.length = j + 1 → (if tkc b n s = 59 then pt b n F G (tkx b n s) lv Cs else if tkc b n s = 301 then some (.inl Cs) else some (.inr (tkp b n s))) = some res → ms_V cd_X5_read none 3 (ms_Cl (dD 0 + 16)) (RTq b n X0 t res) 35 [(0, .ref 3), (1, .int (nI j))] [] (ms_x X t) := by
  intro G
  induction G with
  | zero =>
    intro X s cs lv j w Cs hp h hj hres
    have h' := h
    obtain ⟨hR, hs, hcs, hlv, hC, h4, hold⟩ := h'
    have htl := tkc_lt (s := s) hR.1
    refine b_X5_read_35 (ms_no (fun z => by rw [show (12 : Int32) = nI 12 from rfl, ms_nle (by omega) (by omega)] at z; omega) (ms_oI_i xf_3_8 ?_))
    rw [hR.2.1.2.2.1]
    by_cases h59 : tkc b n s = 59
    · rw [if_pos h59] at hres
      cases hres
    · rw [if_neg h59] at hres
      refine ms_no (tk_ne htl (v := 59) (by decide) h59) (ms_oI_i xf_3_8 ?_)
      rw [hR.2.1.2.2.1]
      by_cases h301 : tkc b n s = 301
      · rw [if_pos h301] at hres
        have e2 := Option.some.inj hres
        subst e2
        exact ms_yes (by rw [h301]; rfl) (k_mkT (D := dD 0) h hp (fun T3 l1 l2 l3 => ⟨X, T3, hp, rfl, rfl, l1, l2, l3⟩))
      · rw [if_neg h301] at hres
        have e2 := Option.some.inj hres
        subst e2
        exact ms_no (tk_ne htl (v := 301) (by decide) h301) ⟨X, hp, rfl, rfl, hR.1, hR.2.1.1⟩
  | succ G ih =>
    intro X s cs lv j w Cs hp h hj hres
    have h' := h
    obtain ⟨hR, hs, hcs, hlv, hC, h4, hold⟩ := h'
    have htl := tkc_lt (s := s) hR.1
    refine b_X5_read_35 (ms_no (fun z => by rw [show (12 : Int32) = nI 12 from rfl, ms_nle (by omega) (by omega)] at z; omega) (ms_oI_i xf_3_8 ?_))
    rw [hR.2.1.2.2.1]
    by_cases h59 : tkc b n s = 59
    · rw [if_pos h59] at hres
      have gt := tok_gt hs (show tkc b n s ≠ 301 by omega)
      refine ms_yes (by rw [h59]; rfl) (mk_n0 (k_adv (d := dD 0 + 10) hW hR hs) (fun Y hk hRY => ?_))
      have kY := kp4_3 hk
      have hRC : RC b n (tkx b n s) cs lv w Cs Y := ⟨hRY, gt.2, by omega, hlv, hC, by rw [kY.2]; exact h4, fun i c hi => RW_4 (hold i c hi) kY (Nat.le_refl _) (fun _ _ => rfl)⟩
      have hq : (match pk b n F (tkx b n s) lv Cs.length with
        | none => none
        | some (.inr p) => some (.inr p)
        | some (.inl a) => if tkc b n a.2.1 = 59 then pt b n F G (tkx b n a.2.1) a.2.2 (Cs ++ [a.1]) else if tkc b n a.2.1 = 301 then some (.inl (Cs ++ [a.1])) else some (.inr (tkp b n a.2.1))) = some res := hres
      have hrr : ∃ r1, pk b n F (tkx b n s) lv Cs.length = some r1 := by
        cases hz : pk b n F (tkx b n s) lv Cs.length with
        | none => rw [hz] at hq; cases hq
        | some r1 => exact ⟨r1, rfl⟩
      obtain ⟨r1, hr1⟩ := hrr
      rw [hr1] at hq
      obtain ⟨rr, gg, hrq, hcl⟩ := k_readClause (t := t) hA hW hRC hr1
      refine rc_c1 ⟨rr, gg, hrq, ms_Cl_mono (by omega) hcl⟩ (fun Z p e1 k1 t1 h6 => ?_) (fun a Z w' cs' e1 k1 R1 => ?_)
      · subst e1
        have e2 : res = .inr p := (Option.some.inj hq).symm
        subst e2
        exact ms_yes rfl ⟨Z, kp5_t hp (kp5_t (kp5_4 kY) k1), rfl, rfl, t1, h6⟩
      · subst e1
        refine ms_no (by decide) ?_
        rw [show nI j + 1 = nI (j + 1) from ms_p1 1]
        exact ih Z a.2.1 cs' a.2.2 (j + 1) w' (Cs ++ [a.1]) (kp5_t hp (kp5_t (kp5_4 kY) k1)) R1 (by rw [List.length_append, hj]; rfl) hq
    · rw [if_neg h59] at hres
      refine ms_no (tk_ne htl (v := 59) (by decide) h59) (ms_oI_i xf_3_8 ?_)
      rw [hR.2.1.2.2.1]
      by_cases h301 : tkc b n s = 301
      · rw [if_pos h301] at hres
        have e2 := Option.some.inj hres
        subst e2
        exact ms_yes (by rw [h301]; rfl) (k_mkT (D := dD 0) h hp (fun T3 l1 l2 l3 => ⟨X, T3, hp, rfl, rfl, l1, l2, l3⟩))
      · rw [if_neg h301] at hres
        have e2 := Option.some.inj hres
        subst e2
        exact ms_no (tk_ne htl (v := 301) (by decide) h301) ⟨X, hp, rfl, rfl, hR.1, hR.2.1.1⟩
theorem kp5_i {q : Nat} {v : Int32} (h : kp5 X Y) : kp5 X (cx_ui Y 3 q v) := fr_i h rfl
theorem k_read (hA : KA b n F 0) (hW : HW) {G : Nat} {res : List cl_T ⊕ Nat} (hT : TC X b n) (hres : pt b n F (G + 1) 0 0 [] = some res) : ms_H' (dD 0 + 17) 71 [.ref 3] (ms_x X t) (RTq b n X t res) := by
  refine mx_m (fun a b c => m_X5_read a b ⟨_, xo_3⟩ c) RTq_l (b_X5_read_0 ?_)
  rw [xp_3_7, xp_3_3, xp_3_4, xp_3_5]
  have kX : kp5 X (cx_ui (cx_ui (cx_ui (cx_ui X 3 7 0) 3 3 0) 3 4 0) 3 5 0) := kp5_i (kp5_i (kp5_i (kp5_i fr_0)))
  have hT' : TC (cx_ui (cx_ui (cx_ui (cx_ui X 3 7 0) 3 3 0) 3 4 0) 3 5 0) b n := TC_i (TC_i (TC_i (TC_i hT)))
  have z7 : cx_i (cx_ui (cx_ui (cx_ui (cx_ui X 3 7 0) 3 3 0) 3 4 0) 3 5 0) 3 7 = nI 0 := by rw [cx_i_ui (by decide), cx_i_ui (by decide), cx_i_ui (by decide), cx_i_self]; rfl
  have z3 : cx_i (cx_ui (cx_ui (cx_ui (cx_ui X 3 7 0) 3 3 0) 3 4 0) 3 5 0) 3 3 = nI 0 := by rw [cx_i_ui (by decide), cx_i_ui (by decide), cx_i_self]; rfl
  have z4 : cx_i (cx_ui (cx_ui (cx_ui (cx_ui X 3 7 0) 3 3 0) 3 4 0) 3 5 0) 3 4 = nI 0 := by rw [cx_i_ui (by decide), cx_i_self]; rfl
  have z5 : cx_i (cx_ui (cx_ui (cx_ui (cx_ui X 3 7 0) 3 3 0) 3 4 0) 3 5 0) 3 5 = nI 0 := cx_i_self
  generalize cx_ui (cx_ui (cx_ui (cx_ui X 3 7 0) 3 3 0) 3 4 0) 3 5 0 = X1 at kX hT' z7 z3 z4 z5 ⊢
  obtain ⟨ra, ga, ⟨Y, hk, ea1, ea2, hq⟩, hcl⟩ := k_advance (d := dD 0 + 10) (t := t) hW hT' z7 (Nat.zero_le _)
  rw [ea1, ea2] at hcl
  refine ms_c0_i hcl ?_
  have kY := kp4_3 hk
  have f1 : f3 1 = false := rfl
  have f2 : f3 2 = false := rfl
  have hTY : TC Y b n := ⟨hT'.1, by rw [(hk.1.1 1 f1).1]; exact hT'.2.1, fun k hk2 => by rw [(hk.1.1 2 f2).2]; exact hT'.2.2 k hk2⟩
  have hRC : RC b n 0 0 0 (fun _ => 0) [] Y := ⟨⟨hTY, hq, by rw [hk.2 3 (by decide)]; exact z3, by rw [hk.2 5 (by decide)]; exact z5, fun i hi => absurd hi (Nat.not_lt_zero _)⟩, Nat.zero_le _, Nat.le_refl _, by decide, by decide, by rw [hk.2 4 (by decide)]; exact z4, fun i c hi => by cases hi⟩
  have hqq : (match pk b n F 0 0 ([] : List cl_T).length with
    | none => none
    | some (.inr p) => some (.inr p)
    | some (.inl a) => if tkc b n a.2.1 = 59 then pt b n F G (tkx b n a.2.1) a.2.2 ([] ++ [a.1]) else if tkc b n a.2.1 = 301 then some (.inl ([] ++ [a.1])) else some (.inr (tkp b n a.2.1))) = some res := hres
  have hrr : ∃ r1, pk b n F 0 0 ([] : List cl_T).length = some r1 := by
    cases hz : pk b n F 0 0 ([] : List cl_T).length with
    | none => rw [hz] at hqq; cases hqq
    | some r1 => exact ⟨r1, rfl⟩
  obtain ⟨r1, hr1⟩ := hrr
  rw [hr1] at hqq
  obtain ⟨rr, gg, hrq, hcl2⟩ := k_readClause (t := t) hA hW hRC hr1
  refine rc_c1 ⟨rr, gg, hrq, ms_Cl_mono (by omega) hcl2⟩ (fun Z p e1 k1 t1 h6 => ?_) (fun a Z w' cs' e1 k1 R1 => ?_)
  · subst e1
    have e2 : res = .inr p := (Option.some.inj hqq).symm
    subst e2
    exact ms_yes rfl ⟨Z, kp5_t kX (kp5_t (kp5_4 kY) k1), rfl, rfl, t1, h6⟩
  · subst e1
    refine ms_no (by decide) ?_
    rw [show (0 : Int32) = nI 0 from rfl]
    exact k_read35 hA hW G Z a.2.1 cs' a.2.2 0 w' ([] ++ [a.1]) (kp5_t kX (kp5_t (kp5_4 kY) k1)) R1 rfl hqq
end Tx
