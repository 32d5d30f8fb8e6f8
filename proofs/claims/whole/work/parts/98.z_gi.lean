/-! CALL BY CALL: image, back; written by wip/whole/mdl.py from z_gi.txt -/
section Gi
variable {X Y : cx_T} {M N : md_T} {T t : ms_S} {B D S : bk_T} {r r' : Nat → Int32} {Ts : List (List cl_T)} {i j k n p e : Nat} {A : ab_T}
theorem cp_th {m : Nat} (hm : m < 48) : bk_th (bk_cp D S) m = bk_th S m := by
  show (if 0 ≤ m ∧ m < 0 + 48 then bk_th S (0 + (m - 0)) else _) = _
  rw [if_pos (by omega), show 0 + (m - 0) = m by omega]
theorem cp_pa {m : Nat} (hm : m < 64) : bk_pa (bk_cp D S) m = bk_pa S m := by
  show (if 0 ≤ m ∧ m < 0 + 64 then bk_pa S (0 + (m - 0)) else _) = _
  rw [if_pos (by omega), show 0 + (m - 0) = m by omega]
theorem cp_li {m : Nat} (hm : m < 192) : bk_li (bk_cp D S) m = bk_li S m := by
  show (if 0 ≤ m ∧ m < 0 + 192 then bk_li S (0 + (m - 0)) else _) = _
  rw [if_pos (by omega), show 0 + (m - 0) = m by omega]
theorem cp_en {m : Nat} (hm : m < 960) : bk_en (bk_cp D S) m = bk_en S m := by
  show (if 0 ≤ m ∧ m < 0 + 960 then bk_en S (0 + (m - 0)) else _) = _
  rw [if_pos (by omega), show 0 + (m - 0) = m by omega]
theorem cp_tx (hi : i < 20) : bk_tx (bk_cp D S) i = bk_tx S i := by
  show (if i < 20 then bk_tx S i else _) = _
  rw [if_pos hi]
theorem RB_r (h : RB S r) (e : ∀ i, i < 946 → r' i = r i) : RB S r' := by
  obtain ⟨w0, ⟨k0, k1, k2, k3⟩, a1, a2, a3, a4, a5⟩ := h
  have hw : bk_tc S ≤ 8 ∧ bk_pc S ≤ 16 ∧ bk_ec S ≤ 120 ∧ bk_xc S ≤ 20 := w0
  have hc : ∀ s n, n ≤ bk_ec S → rc r' s n = rc r s n := fun s n hs => rc_cong n (fun g _ => e _ (by omega))
  have hn : ∀ s i n, n ≤ bk_ec S → rn r' s i n = rn r s i n := fun s i n hs => rn_cong n (fun g _ => e _ (by omega))
  refine ⟨w0, ⟨by rw [e _ (by omega)]; exact k0, by rw [e _ (by omega)]; exact k1, by rw [e _ (by omega)]; exact k2, by rw [e _ (by omega)]; exact k3⟩, fun t j ht hj => by rw [e _ (by omega)]; exact a1 t j ht hj, fun p j hp hj => by rw [e _ (by omega)]; exact a2 p j hp hj, fun p hp => by rw [hc _ _ (Nat.le_refl _)]; exact a3 p hp, fun g hg => ?_, fun p i hp hi => ?_⟩
  · obtain ⟨⟨b1, b2, b3⟩, b4, b5⟩ := a4 g hg
    rw [e _ (by omega), e _ (by omega), hc _ _ (by omega)]
    exact ⟨⟨b1, b2, fun j hj => by rw [e _ (by omega)]; exact b3 j hj⟩, b4, b5⟩
  · rw [hc _ _ (Nat.le_refl _)] at hi
    rw [hn _ _ _ (Nat.le_refl _)]
    exact a5 p i hp hi
theorem RB_cp (h : RB S r) : RB (bk_cp D S) r := by
  obtain ⟨w0, k0, a1, a2, a3, a4, a5⟩ := h
  have hw : bk_tc S ≤ 8 ∧ bk_pc S ≤ 16 ∧ bk_ec S ≤ 120 ∧ bk_xc S ≤ 20 := w0
  refine ⟨w0, k0, fun t j ht hj => ?_, fun p j hp hj => ?_, fun p hp => ⟨(a3 p hp).1, ?_⟩, fun g hg => ?_, fun p i hp hi => ?_⟩
  · have ht' : t < bk_tc S := ht
    rw [cp_th (by omega)]; exact a1 t j ht hj
  · have hp' : p < bk_pc S := hp
    rw [cp_pa (by omega)]; exact a2 p j hp hj
  · have hp' : p < bk_pc S := hp
    rw [cp_pa (by omega)]; exact (a3 p hp).2
  · have hg' : g < bk_ec S := hg
    obtain ⟨⟨b1, b2, b3⟩, b4⟩ := a4 g hg
    rw [cp_en (by omega), cp_en (by omega)]
    exact ⟨⟨b1, b2, fun j hj => by rw [cp_en (by omega)]; exact b3 j hj⟩, b4⟩
  · have hp' : p < bk_pc S := hp
    have h12 : rc r (nI p) (bk_ec S) ≤ 12 := (a3 p hp).1
    have hi' : i < rc r (nI p) (bk_ec S) := hi
    rw [cp_li (by omega)]; exact a5 p i hp hi
theorem VR_cp (h : VR S) (w : bk_w S) : VR (bk_cp D S) := by
  obtain ⟨h1, h2, h3⟩ := h
  have hw : bk_tc S ≤ 8 ∧ bk_pc S ≤ 16 ∧ bk_ec S ≤ 120 ∧ bk_xc S ≤ 20 := w
  refine ⟨fun i j hi hj => ?_, fun p j hp hj => ?_, fun g j hg hj => ?_⟩
  · have hi' : i < bk_tc S := hi
    rw [cp_th (by omega)]; exact h1 i j hi hj
  · have hp' : p < bk_pc S := hp
    rw [cp_pa (by omega)]; exact h2 p j hp hj
  · have hg' : g < bk_ec S := hg
    rw [cp_en (by omega)]; exact h3 g j hg hj
theorem TM_cp (h : TM T S Ts) (w : bk_w S) : TM T (bk_cp D S) Ts := by
  intro M'
  obtain ⟨h1, h2⟩ := h M'
  refine ⟨h1, fun i cs hcs => ?_⟩
  have hi : i < Ts.length := (List.getElem?_eq_some_iff.mp hcs).1
  have h20 := w.2.2.2
  rw [cp_tx (by omega)]
  exact h2 i cs hcs
theorem TO_cp (h : TO t S) : TO t (bk_cp D S) := by
  intro i a hi ha
  rw [cp_tx hi] at ha
  exact h i a hi ha
theorem MT_e2 (h : ∀ m, 946 ≤ m → m < 18906 → r' m = r m) (hl : Ts.length ≤ 20) (hT : MT r Ts) : MT r' Ts := by
  intro i cs hcs
  have hi : i < Ts.length := (List.getElem?_eq_some_iff.mp hcs).1
  obtain ⟨a1, a2, n, o, a, w, k⟩ := hT i cs hcs
  have hn := w.1
  refine ⟨by rw [h _ (by omega) (by omega)]; exact a1, a2, n, o, a, ⟨w.1, fun k hk => by rw [h _ (by omega) (by omega), h _ (by omega) (by omega)]; exact w.2 k hk⟩, fun j c hc => ?_⟩
  have hj : j < cs.length := (List.getElem?_eq_some_iff.mp hc).1
  obtain ⟨k1, k2, s, m, e, k3, k4, k5, k6, k7, k8, k9, k10⟩ := k j c hc
  exact ⟨by rw [h _ (by omega) (by omega)]; exact k1, k2, s, m, e, k3, k4, k5, by rw [h _ (by omega) (by omega)]; exact k6, by rw [h _ (by omega) (by omega)]; exact k7, by rw [h _ (by omega) (by omega)]; exact k8, by rw [h _ (by omega) (by omega)]; exact k9, k10⟩
theorem imb_2 (hk : k < 2) (hj : j < 2) (h : j ≠ k) : co_imb j ≠ co_imb k := by
  rcases two (show k < 1 + 1 from hk) with rfl | rfl <;> rcases two (show j < 1 + 1 from hj) with rfl | rfl <;> first | exact absurd rfl h | decide
theorem imb_6 (hk : k < 2) : 6 ≠ co_imb k := by
  rcases two (show k < 1 + 1 from hk) with rfl | rfl <;> decide
theorem GQ_6 (h : GR X M T) : bk_w (cx_b X 6) := h.1.1.1
theorem Gs_image {v : Int32} (h : GR X M T) : (co_image X v).1 = (mo_image M v).1 ∧ GR (co_image X v).2 (mo_image M v).2 T := by
  unfold co_image mo_image
  rw [show md_in v 0 1 = ms_ix 2 v from md_in_ix (k := 1) (by decide)]
  split
  · rename_i hg
    obtain ⟨k, hk, rfl, e2, _⟩ := ms_ix_k hg
    rw [e2]
    refine ⟨rfl, ?_⟩
    have e63 : ∀ n, cx_a (co_imc X k) 63 n = if n = k then 1 else cx_a X 63 n := fun n => by
      unfold co_imc
      rw [cx_a_ua]
      by_cases hn : n = k
      · rw [if_pos ⟨rfl, hn⟩, if_pos hn]
      · rw [if_neg (fun z => hn z.2), if_neg hn]
        rfl
    have ec : ∀ c n, c ≠ 63 → cx_a (co_imc X k) c n = cx_a X c n := fun c n hc => by
      unfold co_imc
      rw [cx_a_ua, if_neg (fun z => hc z.1)]
      rfl
    have eb : ∀ c, c ≠ co_imb k → cx_b (co_imc X k) c = cx_b X c := fun c hc => cx_b_ne hc
    have ek : cx_b (co_imc X k) (co_imb k) = bk_cp (cx_b X (co_imb k)) (cx_b X 6) := cx_b_ub
    have ei : ∀ c q, cx_i (co_imc X k) c q = cx_i X c q := fun c q => rfl
    have n5 : ∀ m, md_a (md_ua (md_sa (md_ui M 0 0) 5 (md_img M k 18906)) 6 k 1) 5 m = md_img M k 18906 m := fun m => by
      rw [md_a_fun (by decide), md_a_sa]
    have n6 : ∀ m, md_a (md_ua (md_sa (md_ui M 0 0) 5 (md_img M k 18906)) 6 k 1) 6 m = if m = k then 1 else md_a M 6 m := fun m => by
      rw [md_a_ua]
      by_cases hm : m = k
      · rw [if_pos ⟨rfl, hm⟩, if_pos hm]
      · rw [if_neg (fun z => hm z.2), if_neg hm, md_a_sn (by decide)]
        rfl
    have no : ∀ q m, q ≠ 5 → q ≠ 6 → md_a (md_ua (md_sa (md_ui M 0 0) 5 (md_img M k 18906)) 6 k 1) q m = md_a M q m := fun q m h1 h2 => by
      rw [md_a_fun h2, md_a_sn h1]
      rfl
    have ni : ∀ q, q ≠ 0 → md_i (md_ua (md_sa (md_ui M 0 0) 5 (md_img M k 18906)) 6 k 1) q = md_i M q := fun q hq => md_i_ne hq
    generalize md_ua (md_sa (md_ui M 0 0) 5 (md_img M k 18906)) 6 k 1 = N at n5 n6 no ni
    generalize co_imc X k = Y at e63 ec eb ek ei
    have hr : RX Y N := RX_rd h.1 (eb 6 (imb_6 hk)) (fun c hc q => ei c q) (fun c hc n => ec c n (by rcases hc with rfl | rfl <;> decide)) (fun q hq => ni q (by rcases hq with rfl | rfl | rfl <;> decide)) (fun q hq n => no q n (by rcases hq with rfl | rfl | rfl <;> decide) (by rcases hq with rfl | rfl | rfl <;> decide))
    refine ⟨RX_acc hr (by decide), ?_⟩
    have hw := GQ_6 h
    obtain ⟨hv, ⟨Ts, t1, t2, t3⟩, to, im⟩ := h.2
    have hTl : Ts.length ≤ 20 := by rw [(t1 M).1]; exact hw.2.2.2
    have g : GQ Y N T := by
      refine ⟨by rw [eb 6 (imb_6 hk)]; exact hv, ⟨Ts, by rw [eb 6 (imb_6 hk)]; exact t1, MT_eq (fun m _ => no 3 m (by decide) (by decide)) t2, ?_⟩, fun M' => ?_, fun j hj => ?_⟩
      · rw [eb 6 (imb_6 hk)]
        exact LC_c t3 (fun c h1 h2 n => ec c n (by omega))
      · obtain ⟨o1, o2, o3⟩ := to M'
        refine ⟨by rw [eb 6 (imb_6 hk)]; exact o1, ?_, ?_⟩
        · rcases two hk with rfl | rfl
          · rw [show cx_b Y 51 = _ from ek]
            exact TO_cp o1
          · rw [eb 51 (by decide)]
            exact o2
        · rcases two hk with rfl | rfl
          · rw [eb 57 (by decide)]
            exact o3
          · rw [show cx_b Y 57 = _ from ek]
            exact TO_cp o1
      · by_cases hjk : j = k
        · subst hjk
          have er : ∀ i, i < 18906 → imr N j i = md_a M 3 i := fun i hi => by
            unfold imr
            rw [n5]
            unfold md_img
            rw [if_pos (by omega), show 18906 * j + i - 18906 * j = i by omega]
          refine Or.inr ⟨by rw [e63, if_pos rfl], by rw [n6, if_pos rfl], ?_, ?_, Ts, ?_, ?_⟩
          · rw [ek]
            exact RB_cp (RB_r h.1.1 (fun i hi => er i (by omega)))
          · rw [ek]
            exact VR_cp hv hw
          · rw [ek]
            exact TM_cp t1 hw
          · exact MT_e2 (fun m _ hm => er m hm) hTl t2
        · have ebj := eb (co_imb j) (imb_2 hk hj hjk)
          have er : ∀ i, i < 18906 → imr N j i = imr M j i := fun i hi => by
            unfold imr
            rw [n5]
            unfold md_img
            rw [if_neg (by omega)]
          unfold IMk
          rw [e63, if_neg hjk, n6, if_neg hjk, ebj]
          refine (im j hj).imp id (fun ⟨q1, q2, q3, q4, Tj, q5, q6⟩ => ⟨q1, q2, RB_r q3 (fun i hi => er i (by omega)), q4, Tj, q5, MT_e2 (fun m _ hm => er m hm) ?_ q6⟩)
          rw [(q5 M).1]
          exact q3.1.2.2.2
    have hk2 : md_k N (md_tell N 0) := md_kt ⟨fun _ _ => rfl, fun _ => rfl, fun _ => rfl⟩
    exact GQ_s g rfl rfl rfl (fun _ => rfl) (fun _ _ _ _ => rfl) hk2.1 hk2.2.1 hk2.2.2
  · exact ⟨rfl, RX_ref (RX_ui0 h.1) (by decide), GQ_ref h.2 (md_kt md_k0)⟩
theorem Gs_back {v : Int32} (h : GR X M T) : (co_back X v).1 = (mo_back M v).1 ∧ GR (co_back X v).2 (mo_back M v).2 T := by
  unfold co_back mo_back
  rw [show md_in v 0 1 = ms_ix 2 v from md_in_ix (k := 1) (by decide)]
  split
  · rename_i hg
    obtain ⟨k, hk, rfl, e2, _⟩ := ms_ix_k hg
    rw [e2]
    obtain ⟨hv, _, to, im⟩ := h.2
    rcases im k hk with ⟨q1, q2⟩ | ⟨q1, q2, q3, q4, Ts, q5, q6⟩
    · rw [if_pos q1, if_pos q2]
      exact ⟨rfl, RX_ref (RX_ui0 h.1) (by decide), GQ_ref h.2 (md_kt md_k0)⟩
    · rw [if_neg (by rw [q1]; decide), if_neg (by rw [q2]; decide)]
      refine ⟨rfl, ?_⟩
      have hw : bk_w (cx_b X (co_imb k)) := q3.1
      have hTl : Ts.length ≤ 20 := by rw [(q5 M).1]; exact hw.2.2.2
      have ek : cx_b (co_bac X k) 6 = bk_cp (cx_b X 6) (cx_b X (co_imb k)) := cx_b_ub
      have eb : ∀ c, c ≠ 6 → cx_b (co_bac X k) c = cx_b X c := fun c hc => cx_b_ne hc
      have ef : ∀ c, 25 ≤ c → c ≤ 27 → ∀ n, n < 16 → cx_a (co_bac X k) c n = -1 := fun c h1 h2 n hn => fo_16 h1 h2 hn
      have ec : ∀ c n, ¬ (25 ≤ c ∧ c ≤ 27) → cx_a (co_bac X k) c n = cx_a X c n := fun c n hc => by
        unfold co_bac co_forget
        rw [cx_a_sn (by omega), cx_a_sn (by omega), cx_a_sn (by omega)]
        rfl
      have ei : ∀ c q, cx_i (co_bac X k) c q = cx_i X c q := fun c q => rfl
      have n3 : ∀ m, m < 18906 → md_a (md_sa (md_ui M 0 0) 3 (md_bk M k 18906)) 3 m = imr M k m := fun m hm => by
        rw [md_a_sa]
        unfold md_bk
        rw [if_pos hm]
        rfl
      have no : ∀ q m, q ≠ 3 → md_a (md_sa (md_ui M 0 0) 3 (md_bk M k 18906)) q m = md_a M q m := fun q m h1 => by
        rw [md_a_sn h1]
        rfl
      have ni : ∀ q, q ≠ 0 → md_i (md_sa (md_ui M 0 0) 3 (md_bk M k 18906)) q = md_i M q := fun q hq => md_i_ne hq
      generalize md_sa (md_ui M 0 0) 3 (md_bk M k 18906) = N at n3 no ni
      generalize co_bac X k = Y at ek eb ef ec ei
      have hB : RB (cx_b Y 6) (md_a N 3) := by
        rw [ek]
        exact RB_cp (RB_r q3 (fun i hi => n3 i (by omega)))
      have hr : RX Y N := by
        refine ⟨hB, ?_⟩
        unfold RR
        rw [ei, ei, ei, ni 1 (by decide), ni 8 (by decide), ni 13 (by decide), show md_a N 2 = md_a M 2 from funext (fun n => no 2 n (by decide)), show md_a N 7 = md_a M 7 from funext (fun n => no 7 n (by decide)), show cx_a Y 2 = cx_a X 2 from funext (fun n => ec 2 n (by decide)), show cx_a Y 64 = cx_a X 64 from funext (fun n => ec 64 n (by decide))]
        exact h.1.2
      refine ⟨RX_acc hr (by decide), ?_⟩
      have g : GQ Y N T := by
        refine ⟨by rw [ek]; exact VR_cp q4 hw, ⟨Ts, by rw [ek]; exact TM_cp q5 hw, MT_e2 (fun m _ hm => n3 m hm) hTl q6, LC_fo hB.1.2.1 ef⟩, fun M' => ?_, fun j hj => IMk_e (im j hj) hj (eb 51 (by decide)) (eb 57 (by decide)) (ec 63 j (by decide)) (fun m => no 5 m (by decide)) (no 6 j (by decide))⟩
        obtain ⟨o1, o2, o3⟩ := to M'
        refine ⟨?_, by rw [eb 51 (by decide)]; exact o2, by rw [eb 57 (by decide)]; exact o3⟩
        rw [ek]
        rcases two hk with rfl | rfl
        · exact TO_cp o2
        · exact TO_cp o3
      have hk2 : md_k N (md_tell N 0) := md_kt ⟨fun _ _ => rfl, fun _ => rfl, fun _ => rfl⟩
      exact GQ_s g rfl rfl rfl (fun _ => rfl) (fun _ _ _ _ => rfl) hk2.1 hk2.2.1 hk2.2.2
  · exact ⟨rfl, RX_ref (RX_ui0 h.1) (by decide), GQ_ref h.2 (md_kt md_k0)⟩
end Gi
