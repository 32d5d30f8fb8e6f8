/-! THE CALL law(), both sides alike; written by wip/whole/mdl.py from zz_e.txt -/
section He
variable {X Y Z : cx_T} {M N : md_T} {T U t u T3 : ms_S} {B : bk_T} {r r' : Nat → Int32} {Ts : List (List cl_T)} {Cs : List cl_T} {i j k n p e a xc : Nat} {c : ms_C} {v : Int32}
theorem addX_tx : bk_tx (bk_addX B a) = va_up (bk_tx B) (bk_xc B) (some a) := rfl
theorem RB_addX (h : RB B r) (hx : bk_xc B < 20) (e : ∀ i, i < 946 → i ≠ 3 → r' i = r i) (e3 : r' 3 = nI (bk_xc B + 1)) : RB (bk_addX B a) r' := by
  obtain ⟨w0, ⟨k0, k1, k2, k3⟩, a1, a2, a3, a4, a5⟩ := h
  have hw : bk_tc B ≤ 8 ∧ bk_pc B ≤ 16 ∧ bk_ec B ≤ 120 ∧ bk_xc B ≤ 20 := w0
  have hc : ∀ s n, n ≤ bk_ec B → rc r' s n = rc r s n := fun s n hs => rc_cong n (fun g _ => e _ (by omega) (by omega))
  have hn : ∀ s i n, n ≤ bk_ec B → rn r' s i n = rn r s i n := fun s i n hs => rn_cong n (fun g _ => e _ (by omega) (by omega))
  have g : (bk_tc B ≤ 8 ∧ bk_pc B ≤ 16 ∧ bk_ec B ≤ 120 ∧ bk_xc B + 1 ≤ 20) ∧ (r' 0 = nI (bk_tc B) ∧ r' 1 = nI (bk_pc B) ∧ r' 2 = nI (bk_ec B) ∧ r' 3 = nI (bk_xc B + 1)) ∧ (∀ t j, t < bk_tc B → j < 6 → bk_th B (t * 6 + j) = r' (10 + 6 * t + j)) ∧ (∀ p j, p < bk_pc B → j < 3 → bk_pa B (p * 4 + j) = r' (58 + 3 * p + j)) ∧ (∀ p, p < bk_pc B → rc r' (nI p) (bk_ec B) ≤ 12 ∧ bk_pa B (p * 4 + 3) = nI (rc r' (nI p) (bk_ec B))) ∧ (∀ e, e < bk_ec B → (bk_en B (e * 8) = r' (106 + 7 * e) ∧ bk_en B (e * 8 + 1) = nI (rc r' (r' (106 + 7 * e)) e) ∧ (∀ j, j < 6 → bk_en B (e * 8 + 2 + j) = r' (106 + 7 * e + 1 + j))) ∧ (∃ p, p < bk_pc B ∧ r' (106 + 7 * e) = nI p) ∧ (∃ t, t < bk_tc B ∧ r' (106 + 7 * e + 1) = nI t)) ∧ (∀ p i, p < bk_pc B → i < rc r' (nI p) (bk_ec B) → bk_li B (p * 12 + i) = rn r' (nI p) (nI i) (bk_ec B)) := by
    refine ⟨⟨hw.1, hw.2.1, hw.2.2.1, hx⟩, ⟨by rw [e _ (by omega) (by omega)]; exact k0, by rw [e _ (by omega) (by omega)]; exact k1, by rw [e _ (by omega) (by omega)]; exact k2, e3⟩, fun t j ht hj => by rw [e _ (by omega) (by omega)]; exact a1 t j ht hj, fun p j hp hj => by rw [e _ (by omega) (by omega)]; exact a2 p j hp hj, fun p hp => by rw [hc _ _ (Nat.le_refl _)]; exact a3 p hp, fun g hg => ?_, fun p i hp hi => ?_⟩
    · obtain ⟨⟨b1, b2, b3⟩, b4, b5⟩ := a4 g hg
      rw [e (106 + 7 * g) (by omega) (by omega), e (106 + 7 * g + 1) (by omega) (by omega), hc _ _ (by omega)]
      exact ⟨⟨b1, b2, fun j hj => by rw [e _ (by omega) (by omega)]; exact b3 j hj⟩, b4, b5⟩
    · rw [hc _ _ (Nat.le_refl _)] at hi
      rw [hn _ _ _ (Nat.le_refl _)]
      exact a5 p i hp hi
  exact g
theorem VR_addX (h : VR B) : VR (bk_addX B a) := h
theorem ga_app (h : t[i]? = some c) : (t ++ u)[i]? = some c := by
  rw [List.getElem?_append_left (List.getElem?_eq_some_iff.mp h).1]
  exact h
theorem tl_c_app (h : tl_c t a Cs) : tl_c (t ++ u) a Cs := by
  obtain ⟨ca, qa, n, w, qf, h1, h2, ⟨n1, n2, f, ⟨f1, f2⟩, n3⟩, ⟨q1, q2⟩, h5, h6⟩ := h
  exact ⟨ca, qa, n, w, qf, h1, ga_app h2, ⟨n1, n2, f, ⟨f1, ga_app f2⟩, n3⟩, ⟨q1, ga_app q2⟩, h5, h6⟩
theorem TM_app (h : TM T B Ts) : TM (T ++ U) B Ts := by
  intro M'
  rw [← List.append_assoc]
  obtain ⟨h1, h2⟩ := h M'
  refine ⟨h1, fun i cs hcs => ?_⟩
  obtain ⟨a, b1, b2⟩ := h2 i cs hcs
  exact ⟨a, b1, tl_c_app b2⟩
theorem TO_app (h : TO t B) : TO (t ++ u) B := by
  intro i a hi ha
  obtain ⟨h1, fx, h2⟩ := h i a hi ha
  exact ⟨h1, fx, ga_app h2⟩
theorem TM_new (h : TM T B Ts) (hc : ∀ t' : ms_S, t'.length = (md_c 65 M ++ T).length → tl_c (t' ++ U) a Cs) : TM (T ++ U) (bk_addX B a) (Ts ++ [Cs]) := by
  intro M'
  rw [← List.append_assoc]
  obtain ⟨h1, h2⟩ := h M'
  refine ⟨by rw [List.length_append, h1]; rfl, fun i cs hcs => ?_⟩
  by_cases hi : i < Ts.length
  · rw [List.getElem?_append_left hi] at hcs
    obtain ⟨a1, b1, b2⟩ := h2 i cs hcs
    exact ⟨a1, by rw [addX_tx, va_up_ne _ _ (by omega)]; exact b1, tl_c_app b2⟩
  · have hl := (List.getElem?_eq_some_iff.mp hcs).1
    rw [List.length_append, show [Cs].length = 1 from rfl] at hl
    have hi2 : i = Ts.length := by omega
    subst hi2
    rw [List.getElem?_append_right (Nat.le_refl _), Nat.sub_self] at hcs
    cases hcs
    exact ⟨a, by rw [addX_tx, h1, va_up_self], hc _ (by rw [List.length_append, List.length_append]; rfl)⟩
theorem TO_new (h : TO t B) (hc : tl_c (t ++ U) a Cs) : TO (t ++ U) (bk_addX B a) := by
  intro i q hi hq
  rw [addX_tx] at hq
  by_cases hx : i = bk_xc B
  · rw [hx, va_up_self] at hq
    cases hq
    obtain ⟨ca, qa, n, w, qf, h1, h2, _⟩ := hc
    exact ⟨h1, _, h2⟩
  · rw [va_up_ne _ _ hx] at hq
    exact TO_app h i q hi hq
theorem MT_e3 (h : ∀ m, 946 ≤ m → m < 946 + 898 * Ts.length → r' m = r m) (hT : MT r Ts) : ∀ i cs, Ts[i]? = some cs → mt_t r' i cs := by
  intro i cs hcs
  have hi : i < Ts.length := (List.getElem?_eq_some_iff.mp hcs).1
  obtain ⟨a1, a2, n, o, a, w, k⟩ := hT i cs hcs
  have hn := w.1
  refine ⟨by rw [h _ (by omega) (by omega)]; exact a1, a2, n, o, a, ⟨w.1, fun k hk => by rw [h _ (by omega) (by omega), h _ (by omega) (by omega)]; exact w.2 k hk⟩, fun j c hc => ?_⟩
  have hj : j < cs.length := (List.getElem?_eq_some_iff.mp hc).1
  obtain ⟨k1, k2, s, m, e, k3, k4, k5, k6, k7, k8, k9, k10⟩ := k j c hc
  exact ⟨by rw [h _ (by omega) (by omega)]; exact k1, k2, s, m, e, k3, k4, k5, by rw [h _ (by omega) (by omega)]; exact k6, by rw [h _ (by omega) (by omega)]; exact k7, by rw [h _ (by omega) (by omega)]; exact k8, by rw [h _ (by omega) (by omega)]; exact k9, k10⟩
theorem MT_new (h : ∀ m, 946 ≤ m → m < 946 + 898 * Ts.length → r' m = r m) (hT : MT r Ts) (hc : mt_t r' Ts.length Cs) : MT r' (Ts ++ [Cs]) := by
  intro i cs hcs
  by_cases hi : i < Ts.length
  · rw [List.getElem?_append_left hi] at hcs
    exact MT_e3 h hT i cs hcs
  · have hl := (List.getElem?_eq_some_iff.mp hcs).1
    rw [List.length_append, show [Cs].length = 1 from rfl] at hl
    have hi2 : i = Ts.length := by omega
    subst hi2
    rw [List.getElem?_append_right (Nat.le_refl _), Nat.sub_self] at hcs
    cases hcs
    exact hc
theorem IMk_T (h : IMk X M T k) : IMk X M (T ++ U) k := h.imp id (fun ⟨q1, q2, q3, q4, Ts, q5, q6⟩ => ⟨q1, q2, q3, q4, Ts, TM_app q5, q6⟩)
theorem RR_law (h : RR X M) (z0 : cx_i Z 0 11 = cx_i X 0 11) (z1 : cx_i Z 1 1 = 0) (zf : cx_i Z 0 12 = v) (za2 : ∀ n, cx_a Z 2 n = cx_a X 2 n) (za64 : ∀ n, cx_a Z 64 n = cx_a X 64 n) (m1 : md_i N 1 = md_i M 1) (m8 : md_i N 8 = 0) (mf : md_i N 13 = v) (m2 : ∀ n, md_a N 2 n = md_a M 2 n) (m7 : ∀ n, md_a N 7 n = md_a M 7 n) : RR Z N := by
  unfold RR
  rw [z0, z1, zf, m1, m8, mf, show cx_a Z 2 = cx_a X 2 from funext za2, show cx_a Z 64 = cx_a X 64 from funext za64, show md_a N 2 = md_a M 2 from funext m2, show md_a N 7 = md_a M 7 from funext m7]
  obtain ⟨st, rf, _, tp, _⟩ := h
  exact ⟨st, rf, ⟨rfl, 0, by decide, rfl⟩, tp, rfl⟩
theorem by_v {v : Int32} (h0 : 0 ≤ v) (h1 : v ≤ 255) : v = nI v.toNatClampNeg ∧ v.toNatClampNeg < 256 := by
  have e0 : (0 : Int) ≤ v.toInt := by
    have := Int32.le_iff_toInt_le.mp h0
    exact this
  have e1 : v.toInt ≤ 255 := by
    have := Int32.le_iff_toInt_le.mp h1
    exact this
  have e2 : v.toNatClampNeg = v.toInt.toNat := rfl
  refine ⟨Int32.toInt_inj.mp ?_, by omega⟩
  rw [nI_toInt (by omega)]
  omega
end He
theorem HL_all (hW : HW) : HL := by
  intro X M T h
  obtain ⟨hB, hRR⟩ := h.1
  have hw0 : bk_w (cx_b X 6) := hB.1
  have hxc : bk_xc (cx_b X 6) ≤ 20 := hw0.2.2.2
  have hr3 : md_a M 3 3 = nI (bk_xc (cx_b X 6)) := hB.2.1.2.2.2
  have hRR2 := hRR
  obtain ⟨_, _, ⟨tl1, n, hn, tl2⟩, tp, _⟩ := hRR2
  have tpv := fun k => by_v (tp k).2.1 (tp k).2.2
  have hTC : TC X (fun k => (cx_a X 2 k).toNatClampNeg) n := ⟨hn, tl2, fun k _ => tpv k⟩
  have hTP : TP M (fun k => (cx_a X 2 k).toNatClampNeg) n := ⟨hn, by rw [← tl1]; exact tl2, fun k _ => by rw [← (tp k).1]; exact tpv k⟩
  by_cases h20 : 20 ≤ bk_xc (cx_b X 6)
  · obtain ⟨r, g, ⟨e1, e2⟩, hc⟩ := k_law5 (t := md_c 65 M ++ T) h20 (by omega)
    rw [e1, e2] at hc
    obtain ⟨r2, g2, ⟨f1, f2⟩, hc2⟩ := n_law5 (xc := 20) (d := 100) (h := cx_c (co_ref (cx_ui X 1 1 0) (-5))) (t := T) (M := M) (by rw [hr3, show bk_xc (cx_b X 6) = 20 by omega])
    rw [f1, f2] at hc2
    refine ⟨co_ref (cx_ui X 1 1 0) (-5), md_tell (md_ui (md_ui M 0 0) 8 0) (-5), T, -5, ms_Cl_mono (by decide) hc, ms_Cl_mono (by decide) (mm1 hc2), ⟨RX_ref ⟨hB, ?_⟩ (by decide), GQ_ref (X := cx_ui X 1 1 0) h.2 (md_kt (mk_ui md_k0))⟩, by omega, by omega⟩
    exact RR_law hRR (cx_i_ui (by decide)) cx_i_self (v := md_i M 13) (by rw [cx_i_ui (by decide)]; exact hRR.2.2.2.2) (fun _ => rfl) (fun _ => rfl) (by rw [md_i_ne (by decide), md_i_ne (by decide)]) md_i_at (by rw [md_i_ne (by decide), md_i_ne (by decide)]) (fun _ => rfl) (fun _ => rfl)
  · have h20 : bk_xc (cx_b X 6) < 20 := by omega
    obtain ⟨F, hF⟩ : ∃ F, 12 * n + 12 < F := ⟨12 * n + 13, by omega⟩
    obtain ⟨G, hG⟩ : ∃ G, 13 ≤ G + 1 := ⟨12, by decide⟩
    obtain ⟨res, hres⟩ := pt_end (b := fun k => (cx_a X 2 k).toNatClampNeg) (n := n) (F := F) hF (G + 1) 0 0 [] (Nat.zero_le _) (by decide) (by rw [show ([] : List cl_T).length = 0 from rfl]; omega)
    obtain ⟨r, g, hq, hc⟩ := k_law (t := md_c 65 M ++ T) (KA_all hW F 0 (by decide)) hW h20 hTC hres
    cases res with
    | inr p =>
      obtain ⟨Y, kp, e1, e2⟩ := hq
      rw [e1, e2] at hc
      obtain ⟨r2, g2, ⟨N, f, n0, n13, n8, f1, f2⟩, hc2⟩ := n_law (d := 100) (h := cx_c (co_ref (cx_ui (cx_ui Y 1 1 0) 0 12 (nI p)) (-6))) (t := T) h20 hr3 hTP hres
      rw [f1, f2] at hc2
      have hb : ∀ c, cx_b (cx_ui (cx_ui Y 1 1 0) 0 12 (nI p)) c = cx_b X c := fun c => congrFun kp.2.2 c
      have za : ∀ c, f345 c = false → ∀ n, cx_a (cx_ui (cx_ui Y 1 1 0) 0 12 (nI p)) c n = cx_a X c n := fun c hc => (kp.1 c hc).2
      have zi : ∀ q, q ≠ 12 → cx_i (cx_ui (cx_ui Y 1 1 0) 0 12 (nI p)) 0 q = cx_i X 0 q := fun q hq => by
        rw [cx_i_ui (fun z => hq z.2), cx_i_ui (fun z => absurd z.1 (by decide))]
        exact (kp.1 0 (by decide)).1 q
      have z1 : cx_i (cx_ui (cx_ui Y 1 1 0) 0 12 (nI p)) 1 1 = 0 := by rw [cx_i_ui (by decide), cx_i_self]
      have zf : cx_i (cx_ui (cx_ui Y 1 1 0) 0 12 (nI p)) 0 12 = nI p := cx_i_self
      generalize cx_ui (cx_ui Y 1 1 0) 0 12 (nI p) = Z at hc hc2 hb za zi z1 zf
      have na : ∀ k, gLw k = false → ∀ n, md_a N k n = md_a M k n := fun k hk => (f k hk).2.2.1
      have hk : md_k M N := ⟨fun m _ => na 3 (by decide) m, na 5 (by decide), na 6 (by decide)⟩
      have hZ : GQ Z M T := GQ_s h.2 (hb 6) (hb 51) (hb 57) (za 63 (by decide)) (fun c h1 h2 => za c (decide_eq_false (by omega))) (fun _ _ => rfl) (fun _ => rfl) (fun _ => rfl)
      refine ⟨co_ref Z (-6), md_tell N (-6), T, -6, ms_Cl_mono (by decide) hc, ms_Cl_mono (by decide) (mm1 hc2), ⟨RX_ref ⟨by rw [hb, show md_a N 3 = md_a M 3 from funext (na 3 (by decide))]; exact hB, RR_law hRR (zi 11 (by decide)) z1 zf (za 2 (by decide)) (za 64 (by decide)) (f 1 (by decide)).1 n8 n13 (na 2 (by decide)) (na 7 (by decide))⟩ (by decide), GQ_ref hZ (md_kt hk)⟩, by omega, by omega⟩
    | inl Cs =>
      obtain ⟨Y, T3, kp, e1, e2, l1, l2, l3⟩ := hq
      rw [e1, e2, List.append_assoc] at hc
      obtain ⟨r2, g2, ⟨N, f, n0, n13, n8, nr, nx, nt, f1, f2⟩, hc2⟩ := n_law (d := 100) (h := cx_c (co_acc (cx_ub (co_forget (cx_ui (cx_ui Y 1 1 0) 0 12 (-1))) 6 (bk_addX (cx_b X 6) (65 + (md_c 65 M ++ T).length))))) (t := T ++ T3) h20 hr3 hTP hres
      rw [f1, f2] at hc2
      have hb6 : cx_b (cx_ub (co_forget (cx_ui (cx_ui Y 1 1 0) 0 12 (-1))) 6 (bk_addX (cx_b X 6) (65 + (md_c 65 M ++ T).length))) 6 = bk_addX (cx_b X 6) (65 + (md_c 65 M ++ T).length) := cx_b_ub
      have hb : ∀ c, c ≠ 6 → cx_b (cx_ub (co_forget (cx_ui (cx_ui Y 1 1 0) 0 12 (-1))) 6 (bk_addX (cx_b X 6) (65 + (md_c 65 M ++ T).length))) c = cx_b X c := fun c hc => (cx_b_ne hc).trans (congrFun kp.2.2 c)
      have zfo : ∀ c, 25 ≤ c → c ≤ 27 → ∀ n, n < 16 → cx_a (cx_ub (co_forget (cx_ui (cx_ui Y 1 1 0) 0 12 (-1))) 6 (bk_addX (cx_b X 6) (65 + (md_c 65 M ++ T).length))) c n = -1 := fun c h1 h2 n hn => fo_16 h1 h2 hn
      have za : ∀ c, f345 c = false → ¬ (25 ≤ c ∧ c ≤ 27) → ∀ n, cx_a (cx_ub (co_forget (cx_ui (cx_ui Y 1 1 0) 0 12 (-1))) 6 (bk_addX (cx_b X 6) (65 + (md_c 65 M ++ T).length))) c n = cx_a X c n := fun c hc h2 n => by
        show cx_a (co_forget (cx_ui (cx_ui Y 1 1 0) 0 12 (-1))) c n = _
        unfold co_forget
        rw [cx_a_sn (by omega), cx_a_sn (by omega), cx_a_sn (by omega)]
        exact (kp.1 c hc).2 n
      have zi : ∀ q, q ≠ 12 → cx_i (cx_ub (co_forget (cx_ui (cx_ui Y 1 1 0) 0 12 (-1))) 6 (bk_addX (cx_b X 6) (65 + (md_c 65 M ++ T).length))) 0 q = cx_i X 0 q := fun q hq => by
        show cx_i (cx_ui (cx_ui Y 1 1 0) 0 12 (-1)) 0 q = _
        rw [cx_i_ui (fun z => hq z.2), cx_i_ui (fun z => absurd z.1 (by decide))]
        exact (kp.1 0 (by decide)).1 q
      have z1 : cx_i (cx_ub (co_forget (cx_ui (cx_ui Y 1 1 0) 0 12 (-1))) 6 (bk_addX (cx_b X 6) (65 + (md_c 65 M ++ T).length))) 1 1 = 0 := by
        show cx_i (cx_ui (cx_ui Y 1 1 0) 0 12 (-1)) 1 1 = 0
        rw [cx_i_ui (by decide), cx_i_self]
      have zf : cx_i (cx_ub (co_forget (cx_ui (cx_ui Y 1 1 0) 0 12 (-1))) 6 (bk_addX (cx_b X 6) (65 + (md_c 65 M ++ T).length))) 0 12 = -1 := by
        show cx_i (cx_ui (cx_ui Y 1 1 0) 0 12 (-1)) 0 12 = -1
        exact cx_i_self
      generalize cx_ub (co_forget (cx_ui (cx_ui Y 1 1 0) 0 12 (-1))) 6 (bk_addX (cx_b X 6) (65 + (md_c 65 M ++ T).length)) = Z at hc hc2 hb6 hb zfo za zi z1 zf
      have na : ∀ k, gLv k = false → ∀ n, md_a N k n = md_a M k n := fun k hk => (f k hk).2.2.1
      obtain ⟨hv, ⟨Ts, t1, t2, t3⟩, to, im⟩ := h.2
      have hl : Ts.length = bk_xc (cx_b X 6) := (t1 M).1
      have hBZ : RB (cx_b Z 6) (md_a N 3) := by
        rw [hb6]
        exact RB_addX hB h20 (fun i hi h3 => nr i (by omega) h3) nx
      have g : GQ Z N (T ++ T3) := by
        refine ⟨by rw [hb6]; exact VR_addX hv, ⟨Ts ++ [Cs], by rw [hb6]; exact TM_new t1 l3, MT_new (fun m h1 h2 => nr m (by rw [← hl]; exact h2) (by omega)) t2 (by rw [hl]; exact nt), LC_fo hBZ.1.2.1 zfo⟩, fun M' => ?_, fun k hk => IMk_e (IMk_T (im k hk)) hk (hb 51 (by decide)) (hb 57 (by decide)) (za 63 (by decide) (by decide) k) (na 5 (by decide)) (na 6 (by decide) k)⟩
        obtain ⟨o1, o2, o3⟩ := to M'
        rw [← List.append_assoc, hb6, hb 51 (by decide), hb 57 (by decide)]
        exact ⟨TO_new o1 (l3 _ (by rw [List.length_append, List.length_append]; rfl)), TO_app o2, TO_app o3⟩
      have hk2 : md_k N (md_tell N (nI (bk_xc (cx_b X 6)))) := md_kt ⟨fun _ _ => rfl, fun _ => rfl, fun _ => rfl⟩
      refine ⟨co_acc Z, md_tell N (nI (bk_xc (cx_b X 6))), T ++ T3, nI (bk_xc (cx_b X 6)), ms_Cl_mono (by decide) hc, ms_Cl_mono (by decide) (mm1 hc2), ⟨RX_acc ⟨hBZ, RR_law hRR (zi 11 (by decide)) z1 zf (za 2 (by decide) (by decide)) (za 64 (by decide) (by decide)) (f 1 (by decide)).1 n8 n13 (na 2 (by decide)) (na 7 (by decide))⟩ (ms_nI_0 (by omega)), GQ_s g rfl rfl rfl (fun _ => rfl) (fun _ _ _ _ => rfl) hk2.1 hk2.2.1 hk2.2.2⟩, by rw [List.length_append]; omega, by rw [ms_tot_app2]; omega⟩
