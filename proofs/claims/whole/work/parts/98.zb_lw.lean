/-! THE LAW'S LOOP, call by call; written by wip/whole/gen_lw.py and mdl.py -/
section Lw
variable {X Y : cx_T} {M N : md_T} {T t : ms_S} {B : bk_T} {Ts : List (List cl_T)} {i j k n p e L : Nat} {A : ab_T} {xs : Nat → Int32} {Q : Option Value → ms_S → Prop}
theorem mm_x : ms_m (cx_c Y) M T = ms_x Y (md_c 65 M ++ T) := rfl
theorem ll_x : (cx_c Y).length = 65 := rfl
theorem mm1 {d y : Nat} {as : List Value} {r : Option Value} (hm : ms_Cl d y (.ref (cx_c Y).length :: as) (ms_m (cx_c Y) M T) r (ms_m (cx_c Y) N T)) : ms_Cl d y (.ref 65 :: as) (ms_x Y (md_c 65 M ++ T)) r (ms_x Y (md_c 65 N ++ T)) := hm
theorem kX1 {d y : Nat} {as : List Value} {a : Int32} {K : Int32 → ms_S → Prop} (hh : ms_H' d y as (ms_x X t) (fX A X t a)) (hk : ∀ Y, cx_fr fE X Y → LC A 24 Y → K a (ms_x Y t)) : ms_c1 (ms_Cl d y as (ms_x X t)) K := by
  obtain ⟨r, g, ⟨Y, v, f, e1, e2, e3, e4⟩, hc⟩ := hh
  rw [e1, e2, e3] at hc
  exact ms_c1_i hc (hk Y f e4)
theorem kXL {d y : Nat} {as : List Value} {a : Int64} {K : Int64 → ms_S → Prop} (hh : ms_H' d y as (ms_x X t) (fXL A X t a)) (hk : ∀ Y, cx_fr fE X Y → LC A 24 Y → K a (ms_x Y t)) : ms_c2 (ms_Cl d y as (ms_x X t)) K := by
  obtain ⟨r, g, ⟨Y, f, e1, e2, e4⟩, hc⟩ := hh
  rw [e1, e2] at hc
  exact ⟨_, _, hc, hk Y f e4⟩
theorem kXQ {d y : Nat} {as : List Value} {a : Int32} {K : Int32 → ms_S → Prop} (hh : ms_H' d y as (ms_x X t) (fQ fL X t a)) (hk : ∀ Y, cx_fr fL X Y → K a (ms_x Y t)) : ms_c1 (ms_Cl d y as (ms_x X t)) K := by
  obtain ⟨r, g, ⟨Y, f, e1, e2⟩, hc⟩ := hh
  rw [e1, e2] at hc
  exact ms_c1_i hc (hk Y f)
theorem nX1 {d y : Nat} {as : List Value} {a : Int32} {K : Int32 → ms_S → Prop} (hh : ms_H' d y (.ref (cx_c Y).length :: as) (ms_m (cx_c Y) M T) (gX (cx_c Y) M T a)) (hk : ∀ N, md_fr gA M N → K a (ms_x Y (md_c 65 N ++ T))) : ms_c1 (ms_Cl d y (.ref 65 :: as) (ms_x Y (md_c 65 M ++ T))) K := by
  obtain ⟨r, g, ⟨N, f, e1, e2⟩, hc⟩ := hh
  rw [e1, e2] at hc
  exact ms_c1_i (mm1 hc) (hk N f)
theorem nXL {d y : Nat} {as : List Value} {a : Int64} {K : Int64 → ms_S → Prop} (hh : ms_H' d y (.ref (cx_c Y).length :: as) (ms_m (cx_c Y) M T) (gXL (cx_c Y) M T a)) (hk : ∀ N, md_fr gA M N → K a (ms_x Y (md_c 65 N ++ T))) : ms_c2 (ms_Cl d y (.ref 65 :: as) (ms_x Y (md_c 65 M ++ T))) K := by
  obtain ⟨r, g, ⟨N, f, e1, e2⟩, hc⟩ := hh
  rw [e1, e2] at hc
  exact ⟨_, _, mm1 hc, hk N f⟩
theorem nXV {d y : Nat} {as : List Value} {P : Int32 → Prop} {K : Int32 → ms_S → Prop} (hh : ms_H' d y (.ref (cx_c Y).length :: as) (ms_m (cx_c Y) M T) (gV (cx_c Y) M T P)) (hk : ∀ N v, md_fr gA M N → P v → K v (ms_x Y (md_c 65 N ++ T))) : ms_c1 (ms_Cl d y (.ref 65 :: as) (ms_x Y (md_c 65 M ++ T))) K := by
  obtain ⟨r, g, ⟨N, v, f, e1, e2, hp⟩, hc⟩ := hh
  rw [e1, e2] at hc
  exact ms_c1_i (mm1 hc) (hk N v f hp)
theorem nXW {d y : Nat} {as : List Value} {a : Int32} {K : Int32 → ms_S → Prop} (hh : ms_H' d y (.ref (cx_c Y).length :: as) (ms_m (cx_c Y) M T) (gV3 (cx_c Y) M T a)) (hk : ∀ N, md_fr (fun k => gW k || decide (k = 3)) M N → (∀ j, md_a N 3 j = md_a M 3 j) → K a (ms_x Y (md_c 65 N ++ T))) : ms_c1 (ms_Cl d y (.ref 65 :: as) (ms_x Y (md_c 65 M ++ T))) K := by
  obtain ⟨r, g, ⟨N, f, g3, e1, e2⟩, hc⟩ := hh
  rw [e1, e2] at hc
  exact ms_c1_i (mm1 hc) (hk N f g3)
theorem kXW {d y : Nat} {as : List Value} {a : Int32} {K : Int32 → ms_S → Prop} (hh : ms_H' d y as (ms_x X t) (fW2 X t a)) (hk : ∀ Y, wf2 X Y → K a (ms_x Y t)) : ms_c1 (ms_Cl d y as (ms_x X t)) K := by
  obtain ⟨r, g, ⟨Y, f, e1, e2⟩, hc⟩ := hh
  rw [e1, e2] at hc
  exact ms_c1_i hc (hk Y f)
theorem sc (hi : i + 8 ≤ L) (hL : L ≤ 4096) (j : Nat) (hj : j < 8) : vp_in (nI i + nI j) L := by
  rw [ms_p1]
  exact ms_in (by omega) (by omega)
theorem GR_0 : GR cx_0 md_0 [] := by
  refine ⟨RX_0, ⟨fun i j h => absurd h (Nat.not_lt_zero _), fun i j h => absurd h (Nat.not_lt_zero _), fun i j h => absurd h (Nat.not_lt_zero _)⟩, ⟨[], fun M' => ⟨rfl, fun i cs h => by cases h⟩, fun i cs h => (by cases h), fun p hp => absurd hp (Nat.not_lt_zero _)⟩, fun M' => ⟨fun i a _ h => (by cases h), fun i a _ h => (by cases h), fun i a _ h => (by cases h)⟩, fun k hk => Or.inl ⟨rfl, rfl⟩⟩
theorem GR_u (h : GR X M T) : GR X (md_ui M 0 0) T := ⟨RX_ui0 h.1, GQ_s h.2 rfl rfl rfl (fun _ => rfl) (fun _ _ _ _ => rfl) (fun _ _ => rfl) (fun _ => rfl) (fun _ => rfl)⟩
theorem GR_w (h : GR X M T) (f : wf2 X Y) (g : md_fr (fun k => gW k || decide (k = 3)) M N) (g3 : ∀ j, md_a N 3 j = md_a M 3 j) : GR Y N T := by
  have ec : ∀ c, c < 12 ∨ (24 ≤ c ∧ c ≤ 32) ∨ 49 < c → (∀ k, cx_i Y c k = cx_i X c k) ∧ ∀ n, cx_a Y c n = cx_a X c n := fun c hc => f.1 c (by omega) (by omega) (by omega) (by omega)
  refine ⟨RX_rd h.1 (f.2 6 (by decide)) (fun c hc => (ec c (by omega)).1) (fun c hc => (ec c (by omega)).2) (fun k hk => (g k (by rcases hk with rfl | rfl | rfl <;> decide)).1) (fun k hk => ?_), GQ_s h.2 (f.2 6 (by decide)) (f.2 51 (by decide)) (f.2 57 (by decide)) (ec 63 (by omega)).2 (fun c h1 h2 => (ec c (by omega)).2) (fun m _ => g3 m) (g 5 (by decide)).2.2.1 (g 6 (by decide)).2.2.1⟩
  rcases hk with rfl | rfl | rfl
  · exact (g 2 (by decide)).2.2.1
  · exact g3
  · exact (g 7 (by decide)).2.2.1
theorem lk_u {q j w v u : Int32} (h : lk_an A q j w v) (h2 : lk_an A q j w u) : v = u := by
  unfold lk_an at h h2
  split at h
  · rename_i hc
    rw [if_pos hc] at h2
    obtain ⟨n, _, e1, l1⟩ := h
    obtain ⟨m, _, e2, l2⟩ := h2
    rw [e1, e2, LKa_u l1 l2]
  · rename_i hc
    rw [if_neg hc] at h2
    rw [h, h2]
abbrev VL (xs : Nat → Int32) (L : Nat) (Q : Option Value → ms_S → Prop) (pc i : Nat) (g : ms_S) : Prop := ms_V cd_law (some (L, xs)) 4 (ms_Cl 1000) Q pc [(0, .retAddr 0), (1, .ref 0), (2, .ref 65), (3, .int (nI i))] [] g
theorem lw_164 (hi : i + 8 ≤ L) (hL : L ≤ 4096) (h : GR X M T) (hK : ∀ Y N, GR Y N T → VL xs L Q 1228 i (ms_x Y (md_c 65 N ++ T))) : VL xs L Q 164 i (ms_x X (md_c 65 M ++ T)) := by
  have w0 : bk_w (cx_b X 6) := h.1.1.1
  obtain ⟨k0, k1, k2, k3⟩ := h.1.1.2.1
  exact b_law_164 ⟨sc hi hL 1 (by decide), sc hi hL 2 (by decide), sc hi hL 3 (by decide), sc hi hL 4 (by decide), sc hi hL 5 (by decide), sc hi hL 6 (by decide), ms_c1_i (c8_thing (d := 997) w0) ⟨sc hi hL 1 (by decide), sc hi hL 2 (by decide), sc hi hL 3 (by decide), sc hi hL 4 (by decide), sc hi hL 5 (by decide), sc hi hL 6 (by decide), ms_c1_i (mm1 (c9_thing (d := 997) k0 w0.1)) (ms_yes (Gs_thing h).1 (hK _ _ (Gs_thing h).2))⟩⟩
theorem lw_239 (hi : i + 8 ≤ L) (hL : L ≤ 4096) (h : GR X M T) (hK : ∀ Y N, GR Y N T → VL xs L Q 1228 i (ms_x Y (md_c 65 N ++ T))) : VL xs L Q 239 i (ms_x X (md_c 65 M ++ T)) := by
  have w0 : bk_w (cx_b X 6) := h.1.1.1
  obtain ⟨k0, k1, k2, k3⟩ := h.1.1.2.1
  exact b_law_239 ⟨sc hi hL 1 (by decide), sc hi hL 2 (by decide), sc hi hL 3 (by decide), ms_c1_i (c8_paper (d := 997) w0) ⟨sc hi hL 1 (by decide), sc hi hL 2 (by decide), sc hi hL 3 (by decide), ms_c1_i (mm1 (c9_paper (d := 997) k1 w0.2.1)) (ms_yes (Gs_paper h).1 (hK _ _ (Gs_paper h).2))⟩⟩
theorem lw_282 (hi : i + 8 ≤ L) (hL : L ≤ 4096) (h : GR X M T) (hK : ∀ Y N, GR Y N T → VL xs L Q 1228 i (ms_x Y (md_c 65 N ++ T))) : VL xs L Q 282 i (ms_x X (md_c 65 M ++ T)) := by
  have w0 : bk_w (cx_b X 6) := h.1.1.1
  obtain ⟨k0, k1, k2, k3⟩ := h.1.1.2.1
  have hsz : bk_sz (cx_b X 6) := fun p hp => ⟨_, (h.1.1.2.2.2.2.1 p hp).1, (h.1.1.2.2.2.2.1 p hp).2⟩
  exact b_law_282 ⟨sc hi hL 1 (by decide), sc hi hL 2 (by decide), sc hi hL 3 (by decide), sc hi hL 4 (by decide), sc hi hL 5 (by decide), sc hi hL 6 (by decide), sc hi hL 7 (by decide), ms_c1_i (c8_entry (d := 995) w0 hsz) ⟨sc hi hL 1 (by decide), sc hi hL 2 (by decide), sc hi hL 3 (by decide), sc hi hL 4 (by decide), sc hi hL 5 (by decide), sc hi hL 6 (by decide), sc hi hL 7 (by decide), ms_c1_i (mm1 (c9_entry (d := 995) k0 k1 k2 w0.1 w0.2.1 w0.2.2.1)) (ms_yes (Gs_entry h).1 (hK _ _ (Gs_entry h).2))⟩⟩
theorem lw_369 (hi : i + 8 ≤ L) (hL : L ≤ 4096) (h : GR X M T) (hK : ∀ Y N, GR Y N T → VL xs L Q 1228 i (ms_x Y (md_c 65 N ++ T))) : VL xs L Q 369 i (ms_x X (md_c 65 M ++ T)) := by
  have w0 : bk_w (cx_b X 6) := h.1.1.1
  obtain ⟨k0, k1, k2, k3⟩ := h.1.1.2.1
  have hsz : bk_sz (cx_b X 6) := fun p hp => ⟨_, (h.1.1.2.2.2.2.1 p hp).1, (h.1.1.2.2.2.2.1 p hp).2⟩
  obtain ⟨_, _, ⟨c1, n, hn, c2⟩, c3, _⟩ := h.1.2
  have htp : co_tp X := fun k _ z => by
    have := (c3 k).2.1
    rw [z] at this
    exact absurd this (by decide)
  exact b_law_369 ⟨sc hi hL 1 (by decide), ms_c1_i (c8_row (d := 993) w0 hsz c2 hn htp) ⟨sc hi hL 1 (by decide), ms_c1_i (mm1 (c9_row (d := 995) k0 w0.1 k1 w0.2.1 k2 w0.2.2.1 (c1.symm.trans c2) hn)) (ms_yes (Gs_row h hn).1 (hK _ _ (Gs_row h hn).2))⟩⟩
theorem lw_392 (hi : i + 8 ≤ L) (hL : L ≤ 4096) (h : GR X M T) (hK : ∀ Y N, GR Y N T → VL xs L Q 1228 i (ms_x Y (md_c 65 N ++ T))) : VL xs L Q 392 i (ms_x X (md_c 65 M ++ T)) := by
  have w0 : bk_w (cx_b X 6) := h.1.1.1
  obtain ⟨k0, k1, k2, k3⟩ := h.1.1.2.1
  exact b_law_392 ⟨sc hi hL 1 (by decide), sc hi hL 2 (by decide), ms_c1_i (c8_of (d := 997) w0) ⟨sc hi hL 1 (by decide), sc hi hL 2 (by decide), ms_c1_i (mm1 (c9_of (d := 997) k2 w0.2.2.1)) (ms_yes (S_of h.1) (hK _ _ (GR_u h)))⟩⟩
theorem lw_425 (hi : i + 8 ≤ L) (hL : L ≤ 4096) (h : GR X M T) (hK : ∀ Y N, GR Y N T → VL xs L Q 1228 i (ms_x Y (md_c 65 N ++ T))) : VL xs L Q 425 i (ms_x X (md_c 65 M ++ T)) := by
  have w0 : bk_w (cx_b X 6) := h.1.1.1
  obtain ⟨k0, k1, k2, k3⟩ := h.1.1.2.1
  exact b_law_425 ⟨sc hi hL 1 (by decide), sc hi hL 2 (by decide), ms_c1_i (c8_list (d := 996) w0) ⟨sc hi hL 1 (by decide), sc hi hL 2 (by decide), ms_c1_i (mm1 (c9_list (d := 996) k1 w0.2.1 k2 w0.2.2.1)) (ms_yes (S_list h.1) (hK _ _ (GR_u h)))⟩⟩
theorem lw_458 (hi : i + 8 ≤ L) (hL : L ≤ 4096) (h : GR X M T) (hK : ∀ Y N, GR Y N T → VL xs L Q 1228 i (ms_x Y (md_c 65 N ++ T))) : VL xs L Q 458 i (ms_x X (md_c 65 M ++ T)) := by
  have w0 : bk_w (cx_b X 6) := h.1.1.1
  obtain ⟨k0, k1, k2, k3⟩ := h.1.1.2.1
  obtain ⟨_, _, ⟨c1, n, hn, c2⟩, _⟩ := h.1.2
  exact b_law_458 ⟨sc hi hL 1 (by decide), sc hi hL 2 (by decide), sc hi hL 3 (by decide), sc hi hL 4 (by decide), sc hi hL 5 (by decide), ms_c1_i (c8_feed (d := 998) c2 hn) ⟨sc hi hL 1 (by decide), sc hi hL 2 (by decide), sc hi hL 3 (by decide), sc hi hL 4 (by decide), sc hi hL 5 (by decide), ms_c1_i (mm1 (c9_feed (d := 998) (c1.symm.trans c2) hn)) (ms_yes (Gs_feed h c2).1 (hK _ _ (Gs_feed h c2).2))⟩⟩
theorem lw_521 (hi : i + 8 ≤ L) (hL : L ≤ 4096) (h : GR X M T) (hK : ∀ Y N, GR Y N T → VL xs L Q 1228 i (ms_x Y (md_c 65 N ++ T))) : VL xs L Q 521 i (ms_x X (md_c 65 M ++ T)) := by
  have w0 : bk_w (cx_b X 6) := h.1.1.1
  obtain ⟨k0, k1, k2, k3⟩ := h.1.1.2.1
  exact b_law_521 ⟨sc hi hL 1 (by decide), ms_c1_i (c8_end (d := 999)) ⟨sc hi hL 1 (by decide), ms_c1_i (mm1 (c9_end (d := 999))) (ms_yes (Gs_end h).1 (hK _ _ (Gs_end h).2))⟩⟩
theorem lw_557 (hi : i + 8 ≤ L) (hL : L ≤ 4096) (h : GR X M T) (hK : ∀ Y N, GR Y N T → VL xs L Q 1228 i (ms_x Y (md_c 65 N ++ T))) : VL xs L Q 557 i (ms_x X (md_c 65 M ++ T)) := by
  have w0 : bk_w (cx_b X 6) := h.1.1.1
  obtain ⟨k0, k1, k2, k3⟩ := h.1.1.2.1
  exact b_law_557 (ms_c1_i (c8_fault (d := 999)) (ms_c1_i (mm1 (c9_fault (d := 999))) (ms_yes (S_fault h.1) (hK _ _ (GR_u h)))))
theorem lw_1146 (hi : i + 8 ≤ L) (hL : L ≤ 4096) (h : GR X M T) (hK : ∀ Y N, GR Y N T → VL xs L Q 1228 i (ms_x Y (md_c 65 N ++ T))) : VL xs L Q 1146 i (ms_x X (md_c 65 M ++ T)) := by
  have w0 : bk_w (cx_b X 6) := h.1.1.1
  obtain ⟨k0, k1, k2, k3⟩ := h.1.1.2.1
  exact b_law_1146 ⟨sc hi hL 1 (by decide), ms_c1_i (c8_image (d := 997) (h.2.2.2.1 M).1) ⟨sc hi hL 1 (by decide), ms_c1_i (mm1 (c9_image (d := 998))) (ms_yes (Gs_image h).1 (hK _ _ (Gs_image h).2))⟩⟩
theorem lw_1169 (hi : i + 8 ≤ L) (hL : L ≤ 4096) (h : GR X M T) (hK : ∀ Y N, GR Y N T → VL xs L Q 1228 i (ms_x Y (md_c 65 N ++ T))) : VL xs L Q 1169 i (ms_x X (md_c 65 M ++ T)) := by
  have w0 : bk_w (cx_b X 6) := h.1.1.1
  obtain ⟨k0, k1, k2, k3⟩ := h.1.1.2.1
  exact b_law_1169 ⟨sc hi hL 1 (by decide), ms_c1_i (c8_back (d := 997) (h.2.2.2.1 M).2.1 (h.2.2.2.1 M).2.2) ⟨sc hi hL 1 (by decide), ms_c1_i (mm1 (c9_back (d := 998))) (ms_yes (Gs_back h).1 (hK _ _ (Gs_back h).2))⟩⟩
theorem lw_1192 (hi : i + 8 ≤ L) (hL : L ≤ 4096) (h : GR X M T) (hK : ∀ Y N, GR Y N T → VL xs L Q 1228 i (ms_x Y (md_c 65 N ++ T))) : VL xs L Q 1192 i (ms_x X (md_c 65 M ++ T)) := by
  have w0 : bk_w (cx_b X 6) := h.1.1.1
  obtain ⟨k0, k1, k2, k3⟩ := h.1.1.2.1
  exact b_law_1192 ⟨sc hi hL 1 (by decide), ms_c1_i (c8_count (d := 998)) ⟨sc hi hL 1 (by decide), ms_c1_i (mm1 (c9_count (d := 999))) (ms_yes (S_count h.1) (hK _ _ (GR_u h)))⟩⟩
theorem lw_1215 (hi : i + 8 ≤ L) (hL : L ≤ 4096) (h : GR X M T) (hK : ∀ Y N, GR Y N T → VL xs L Q 1228 i (ms_x Y (md_c 65 N ++ T))) : VL xs L Q 1215 i (ms_x X (md_c 65 M ++ T)) := by
  have w0 : bk_w (cx_b X 6) := h.1.1.1
  obtain ⟨k0, k1, k2, k3⟩ := h.1.1.2.1
  exact b_law_1215 (ms_c1_i (c8_status (d := 999)) (ms_c1_i (mm1 (c9_status (d := 999))) (ms_yes (S_status h.1) (hK _ _ (GR_u h)))))
theorem lw_570 (hi : i + 8 ≤ L) (hL : L ≤ 4096) (h : GR X M T) (hK : ∀ Y N, GR Y N T → VL xs L Q 1228 i (ms_x Y (md_c 65 N ++ T))) : VL xs L Q 570 i (ms_x X (md_c 65 M ++ T)) := by
  obtain ⟨Ts, hT, hX, hM, hL2⟩ := GR_A h
  refine b_law_570 ⟨sc hi hL 1 (by decide), sc hi hL 2 (by decide), kXQ (k_kindC (d := 997)) (fun Y fy => ⟨sc hi hL 1 (by decide), sc hi hL 2 (by decide), nX1 (n_kind (d := 996) hM) (fun N gN => ms_yes rfl (hK _ _ (GR_rd h (fr_s fy (fun c hc => decide_eq_false (fun z => of_decide_eq_false hc (by omega)))) gN hT (LC_c hL2 (fun c h1 h2 n => (fy.1 c (decide_eq_false (by omega))).2 n)))))⟩)⟩
theorem lw_603 (hi : i + 8 ≤ L) (hL : L ≤ 4096) (h : GR X M T) (hK : ∀ Y N, GR Y N T → VL xs L Q 1228 i (ms_x Y (md_c 65 N ++ T))) : VL xs L Q 603 i (ms_x X (md_c 65 M ++ T)) := by
  obtain ⟨Ts, hT, hX, hM, hL2⟩ := GR_A h
  exact b_law_603 ⟨sc hi hL 1 (by decide), sc hi hL 2 (by decide), sc hi hL 3 (by decide), kX1 (k_apart (d := 994) (hX M) hL2) (fun Y fy hLC => ⟨sc hi hL 1 (by decide), sc hi hL 2 (by decide), sc hi hL 3 (by decide), nX1 (n_apart (d := 993) hM) (fun N gN => ms_yes rfl (hK _ _ (GR_rd h fy gN hT hLC)))⟩)⟩
theorem lw_646 (hi : i + 8 ≤ L) (hL : L ≤ 4096) (h : GR X M T) (hK : ∀ Y N, GR Y N T → VL xs L Q 1228 i (ms_x Y (md_c 65 N ++ T))) : VL xs L Q 646 i (ms_x X (md_c 65 M ++ T)) := by
  obtain ⟨Ts, hT, hX, hM, hL2⟩ := GR_A h
  exact b_law_646 ⟨sc hi hL 1 (by decide), sc hi hL 2 (by decide), sc hi hL 3 (by decide), kX1 (k_least (d := 992) (hX M) hL2) (fun Y fy hLC => ⟨sc hi hL 1 (by decide), sc hi hL 2 (by decide), sc hi hL 3 (by decide), nX1 (n_least (d := 990) hM) (fun N gN => ms_yes rfl (hK _ _ (GR_rd h fy gN hT hLC)))⟩)⟩
theorem lw_689 (hi : i + 8 ≤ L) (hL : L ≤ 4096) (h : GR X M T) (hK : ∀ Y N, GR Y N T → VL xs L Q 1228 i (ms_x Y (md_c 65 N ++ T))) : VL xs L Q 689 i (ms_x X (md_c 65 M ++ T)) := by
  obtain ⟨Ts, hT, hX, hM, hL2⟩ := GR_A h
  exact b_law_689 ⟨sc hi hL 1 (by decide), sc hi hL 2 (by decide), sc hi hL 3 (by decide), kX1 (k_source (d := 993) (hX M) hL2) (fun Y fy hLC => ⟨sc hi hL 1 (by decide), sc hi hL 2 (by decide), sc hi hL 3 (by decide), nX1 (n_source (d := 994) hM) (fun N gN => ms_yes rfl (hK _ _ (GR_rd h fy gN hT hLC)))⟩)⟩
theorem lw_732 (hi : i + 8 ≤ L) (hL : L ≤ 4096) (h : GR X M T) (hK : ∀ Y N, GR Y N T → VL xs L Q 1228 i (ms_x Y (md_c 65 N ++ T))) : VL xs L Q 732 i (ms_x X (md_c 65 M ++ T)) := by
  obtain ⟨Ts, hT, hX, hM, hL2⟩ := GR_A h
  exact b_law_732 ⟨sc hi hL 1 (by decide), sc hi hL 2 (by decide), kX1 (k_from (d := 992) (hX M) hL2) (fun Y fy hLC => ⟨sc hi hL 1 (by decide), sc hi hL 2 (by decide), nX1 (n_from (d := 989) hM) (fun N gN => ms_yes rfl (hK _ _ (GR_rd h fy gN hT hLC)))⟩)⟩
theorem lw_765 (hi : i + 8 ≤ L) (hL : L ≤ 4096) (h : GR X M T) (hK : ∀ Y N, GR Y N T → VL xs L Q 1228 i (ms_x Y (md_c 65 N ++ T))) : VL xs L Q 765 i (ms_x X (md_c 65 M ++ T)) := by
  obtain ⟨Ts, hT, hX, hM, hL2⟩ := GR_A h
  exact b_law_765 ⟨sc hi hL 1 (by decide), sc hi hL 2 (by decide), sc hi hL 3 (by decide), kX1 (k_judge (d := 993) (hX M) hL2) (fun Y fy hLC => ⟨sc hi hL 1 (by decide), sc hi hL 2 (by decide), sc hi hL 3 (by decide), nX1 (n_judge (d := 991) hM) (fun N gN => ms_yes rfl (hK _ _ (GR_rd h fy gN hT hLC)))⟩)⟩
theorem lw_808 (hi : i + 8 ≤ L) (hL : L ≤ 4096) (h : GR X M T) (hK : ∀ Y N, GR Y N T → VL xs L Q 1228 i (ms_x Y (md_c 65 N ++ T))) : VL xs L Q 808 i (ms_x X (md_c 65 M ++ T)) := by
  obtain ⟨Ts, hT, hX, hM, hL2⟩ := GR_A h
  exact b_law_808 ⟨sc hi hL 1 (by decide), sc hi hL 2 (by decide), kX1 (k_tree (d := 992) (hX M) hL2) (fun Y fy hLC => ⟨sc hi hL 1 (by decide), sc hi hL 2 (by decide), nX1 (n_tree (d := 989) hM) (fun N gN => ms_yes rfl (hK _ _ (GR_rd h fy gN hT hLC)))⟩)⟩
theorem lw_884 (hi : i + 8 ≤ L) (hL : L ≤ 4096) (h : GR X M T) (hK : ∀ Y N, GR Y N T → VL xs L Q 1228 i (ms_x Y (md_c 65 N ++ T))) : VL xs L Q 884 i (ms_x X (md_c 65 M ++ T)) := by
  obtain ⟨Ts, hT, hX, hM, hL2⟩ := GR_A h
  exact b_law_884 ⟨sc hi hL 1 (by decide), sc hi hL 2 (by decide), sc hi hL 3 (by decide), kX1 (k_births (d := 992) (hX M) hL2) (fun Y fy hLC => ⟨sc hi hL 1 (by decide), sc hi hL 2 (by decide), sc hi hL 3 (by decide), nX1 (n_births (d := 989) hM) (fun N gN => ms_yes rfl (hK _ _ (GR_rd h fy gN hT hLC)))⟩)⟩
theorem lw_927 (hi : i + 8 ≤ L) (hL : L ≤ 4096) (h : GR X M T) (hK : ∀ Y N, GR Y N T → VL xs L Q 1228 i (ms_x Y (md_c 65 N ++ T))) : VL xs L Q 927 i (ms_x X (md_c 65 M ++ T)) := by
  obtain ⟨Ts, hT, hX, hM, hL2⟩ := GR_A h
  exact b_law_927 ⟨sc hi hL 1 (by decide), sc hi hL 2 (by decide), kX1 (k_drift (d := 992) (hX M) hL2) (fun Y fy hLC => ⟨sc hi hL 1 (by decide), sc hi hL 2 (by decide), nX1 (n_drift (d := 989) hM) (fun N gN => ms_yes rfl (hK _ _ (GR_rd h fy gN hT hLC)))⟩)⟩
theorem lw_960 (hi : i + 8 ≤ L) (hL : L ≤ 4096) (h : GR X M T) (hK : ∀ Y N, GR Y N T → VL xs L Q 1228 i (ms_x Y (md_c 65 N ++ T))) : VL xs L Q 960 i (ms_x X (md_c 65 M ++ T)) := by
  obtain ⟨Ts, hT, hX, hM, hL2⟩ := GR_A h
  exact b_law_960 ⟨sc hi hL 1 (by decide), sc hi hL 2 (by decide), kX1 (k_weight (d := 992) (hX M) hL2) (fun Y fy hLC => ⟨sc hi hL 1 (by decide), sc hi hL 2 (by decide), nX1 (n_weight (d := 989) hM) (fun N gN => ms_yes rfl (hK _ _ (GR_rd h fy gN hT hLC)))⟩)⟩
theorem lw_993 (hi : i + 8 ≤ L) (hL : L ≤ 4096) (h : GR X M T) (hK : ∀ Y N, GR Y N T → VL xs L Q 1228 i (ms_x Y (md_c 65 N ++ T))) : VL xs L Q 993 i (ms_x X (md_c 65 M ++ T)) := by
  obtain ⟨Ts, hT, hX, hM, hL2⟩ := GR_A h
  exact b_law_993 ⟨sc hi hL 1 (by decide), sc hi hL 2 (by decide), kXL (k_twice (d := 995) (hX M) hL2) (fun Y fy hLC => ⟨sc hi hL 1 (by decide), sc hi hL 2 (by decide), nXL (n_twice (d := 994) hM) (fun N gN => ms_yes ((lg_cmp_eq _ _).mpr rfl) (hK _ _ (GR_rd h fy gN hT hLC)))⟩)⟩
theorem lw_1027 (hi : i + 8 ≤ L) (hL : L ≤ 4096) (h : GR X M T) (hK : ∀ Y N, GR Y N T → VL xs L Q 1228 i (ms_x Y (md_c 65 N ++ T))) : VL xs L Q 1027 i (ms_x X (md_c 65 M ++ T)) := by
  obtain ⟨Ts, hT, hX, hM, hL2⟩ := GR_A h
  exact b_law_1027 ⟨sc hi hL 1 (by decide), sc hi hL 2 (by decide), kX1 (k_alike (d := 996) (hX M) hL2) (fun Y fy hLC => ⟨sc hi hL 1 (by decide), sc hi hL 2 (by decide), nX1 (n_alike (d := 996) hM) (fun N gN => ms_yes rfl (hK _ _ (GR_rd h fy gN hT hLC)))⟩)⟩
theorem lw_1060 (hi : i + 8 ≤ L) (hL : L ≤ 4096) (h : GR X M T) (hK : ∀ Y N, GR Y N T → VL xs L Q 1228 i (ms_x Y (md_c 65 N ++ T))) : VL xs L Q 1060 i (ms_x X (md_c 65 M ++ T)) := by
  obtain ⟨Ts, hT, hX, hM, hL2⟩ := GR_A h
  exact b_law_1060 ⟨sc hi hL 1 (by decide), sc hi hL 2 (by decide), sc hi hL 3 (by decide), kX1 (k_run (d := 995) (hX M) hL2) (fun Y fy hLC => ⟨sc hi hL 1 (by decide), sc hi hL 2 (by decide), sc hi hL 3 (by decide), nX1 (n_run (d := 995) hM) (fun N gN => ms_yes rfl (hK _ _ (GR_rd h fy gN hT hLC)))⟩)⟩
theorem lw_841 (hi : i + 8 ≤ L) (hL : L ≤ 4096) (h : GR X M T) (hK : ∀ Y N, GR Y N T → VL xs L Q 1228 i (ms_x Y (md_c 65 N ++ T))) : VL xs L Q 841 i (ms_x X (md_c 65 M ++ T)) := by
  obtain ⟨Ts, hT, hX, hM, hL2⟩ := GR_A h
  exact b_law_841 ⟨sc hi hL 1 (by decide), sc hi hL 2 (by decide), sc hi hL 3 (by decide), mx_v1 (k_lookers (d := 992) (hX M) hL2) (fun Y v fy hv => ⟨sc hi hL 1 (by decide), sc hi hL 2 (by decide), sc hi hL 3 (by decide), nXV (n_lookers (d := 989) hM) (fun N v2 gN hv2 => ms_yes (lk_u hv.1 hv2) (hK _ _ (GR_rd h fy gN hT hv.2)))⟩)⟩
theorem lw_1103 (hi : i + 8 ≤ L) (hL : L ≤ 4096) (h : GR X M T) (hK : ∀ Y N, GR Y N T → VL xs L Q 1228 i (ms_x Y (md_c 65 N ++ T))) : VL xs L Q 1103 i (ms_x X (md_c 65 M ++ T)) := by
  obtain ⟨Ts, hT, hX, hM, hL2⟩ := GR_A h
  exact b_law_1103 ⟨sc hi hL 1 (by decide), sc hi hL 2 (by decide), sc hi hL 3 (by decide), kXW (k_world (d := 991) (hX M) (h.2.2.2.1 M).1) (fun Y fy => ⟨sc hi hL 1 (by decide), sc hi hL 2 (by decide), sc hi hL 3 (by decide), nXW (n_world (d := 988) hM) (fun N gN g3 => ms_yes rfl (hK _ _ (GR_w h fy gN g3)))⟩)⟩
end Lw
