/-! WHAT HOLDS BETWEEN TWO CALLS; written by wip/whole/mdl.py from w_gr.txt -/
def TM (T : ms_S) (B : bk_T) (Ts : List (List cl_T)) : Prop := ∀ M' : md_T, TX (md_c 65 M' ++ T) B Ts
def TOk (T : ms_S) (X : cx_T) : Prop := ∀ M' : md_T, TO (md_c 65 M' ++ T) (cx_b X 6) ∧ TO (md_c 65 M' ++ T) (cx_b X 51) ∧ TO (md_c 65 M' ++ T) (cx_b X 57)
def imr (M : md_T) (k i : Nat) : Int32 := md_a M 5 (18906 * k + i)
def IMk (X : cx_T) (M : md_T) (T : ms_S) (k : Nat) : Prop := (cx_a X 63 k = 0 ∧ md_a M 6 k = 0) ∨ (cx_a X 63 k = 1 ∧ md_a M 6 k = 1 ∧ RB (cx_b X (co_imb k)) (imr M k) ∧ VR (cx_b X (co_imb k)) ∧ ∃ Ts, TM T (cx_b X (co_imb k)) Ts ∧ MT (imr M k) Ts)
def GQ (X : cx_T) (M : md_T) (T : ms_S) : Prop := VR (cx_b X 6) ∧ (∃ Ts, TM T (cx_b X 6) Ts ∧ MT (md_a M 3) Ts ∧ LC (abo (cx_b X 6) Ts) 24 X) ∧ TOk T X ∧ ∀ k, k < 2 → IMk X M T k
def GR (X : cx_T) (M : md_T) (T : ms_S) : Prop := RX X M ∧ GQ X M T
section Gr
variable {X Y : cx_T} {M N : md_T} {T t : ms_S} {B : bk_T} {r : Nat → Int32} {Ts : List (List cl_T)} {i j k n p e : Nat} {A : ab_T}
theorem GR_A (h : GR X M T) : ∃ Ts, (TM T (cx_b X 6) Ts ∧ MT (md_a M 3) Ts) ∧ (∀ M' : md_T, CX (abo (cx_b X 6) Ts) 6 X (md_c 65 M' ++ T)) ∧ MX (abo (cx_b X 6) Ts) M ∧ LC (abo (cx_b X 6) Ts) 24 X := by
  obtain ⟨⟨hB, _⟩, hv, ⟨Ts, h1, h2, h3⟩, _⟩ := h
  obtain ⟨w, ra, rm⟩ := br hB hv (h1 M).1 h2
  exact ⟨Ts, ⟨h1, h2⟩, fun M' => ⟨Or.inl rfl, w, ra, h1 M'⟩, ⟨w, rm⟩, h3⟩
theorem LC_c (hL : LC A 24 X) (e : ∀ c, 25 ≤ c → c ≤ 31 → ∀ n, cx_a Y c n = cx_a X c n) : LC A 24 Y := by
  intro p hp
  obtain ⟨g1, g2, g3⟩ := hL p hp
  refine ⟨?_, ?_, ?_⟩
  · rw [e _ (by omega) (by omega)]; exact g1
  · rw [e _ (by omega) (by omega)]
    refine g2.imp id (fun ⟨x, hx, hs⟩ => ⟨x, hx, SE_eq hs (e _ (by omega) (by omega) _) (e _ (by omega) (by omega) _) (e _ (by omega) (by omega) _) (fun j _ => e _ (by omega) (by omega) _)⟩)
  · rw [e _ (by omega) (by omega)]
    refine g3.imp id (fun ⟨x, hx, r1, r2⟩ => ⟨x, hx, by rw [e _ (by omega) (by omega)]; exact r1, fun k hk => by rw [e _ (by omega) (by omega)]; exact r2 k hk⟩)
theorem LC_fo (h : bk_pc B ≤ 16) (hf : ∀ c, 25 ≤ c → c ≤ 27 → ∀ n, n < 16 → cx_a Y c n = -1) : LC (abo B Ts) 24 Y := by
  intro p hp
  have hp' : p < bk_pc B := hp
  exact ⟨Or.inl (hf 25 (by omega) (by omega) p (by omega)), Or.inl (hf 26 (by omega) (by omega) p (by omega)), Or.inl (hf 27 (by omega) (by omega) p (by omega))⟩
theorem IMk_e (h : IMk X M T k) (hk : k < 2) (h51 : cx_b Y 51 = cx_b X 51) (h57 : cx_b Y 57 = cx_b X 57) (h63 : cx_a Y 63 k = cx_a X 63 k) (h5 : ∀ m, md_a N 5 m = md_a M 5 m) (h6 : md_a N 6 k = md_a M 6 k) : IMk Y N T k := by
  have hb : cx_b Y (co_imb k) = cx_b X (co_imb k) := by
    rcases two (show k < 1 + 1 from hk) with rfl | rfl
    · exact h51
    · exact h57
  have hr : imr N k = imr M k := funext fun i => h5 _
  unfold IMk
  rw [h63, h6, hb, hr]
  exact h
theorem GQ_b (h : GQ X M T) (hv : VR (cx_b Y 6)) (hxc : bk_xc (cx_b Y 6) = bk_xc (cx_b X 6)) (htx : bk_tx (cx_b Y 6) = bk_tx (cx_b X 6)) (hL : ∃ Ts, TM T (cx_b X 6) Ts ∧ MT (md_a M 3) Ts ∧ LC (abo (cx_b Y 6) Ts) 24 Y) (h51 : cx_b Y 51 = cx_b X 51) (h57 : cx_b Y 57 = cx_b X 57) (h63 : ∀ n, cx_a Y 63 n = cx_a X 63 n) (h3 : ∀ m, 946 ≤ m → md_a N 3 m = md_a M 3 m) (h5 : ∀ m, md_a N 5 m = md_a M 5 m) (h6 : ∀ m, md_a N 6 m = md_a M 6 m) : GQ Y N T := by
  obtain ⟨_, _, to, im⟩ := h
  obtain ⟨Ts, t1, t2, t3⟩ := hL
  refine ⟨hv, ⟨Ts, fun M' => ?_, MT_eq h3 t2, t3⟩, fun M' => ⟨?_, ?_, ?_⟩, fun k hk => IMk_e (im k hk) hk h51 h57 (h63 k) h5 (h6 k)⟩
  · unfold TX
    rw [hxc, htx]
    exact t1 M'
  · unfold TO
    rw [htx]
    exact (to M').1
  · rw [h51]
    exact (to M').2.1
  · rw [h57]
    exact (to M').2.2
theorem GQ_s (h : GQ X M T) (h6b : cx_b Y 6 = cx_b X 6) (h51 : cx_b Y 51 = cx_b X 51) (h57 : cx_b Y 57 = cx_b X 57) (h63 : ∀ n, cx_a Y 63 n = cx_a X 63 n) (hl : ∀ c, 25 ≤ c → c ≤ 31 → ∀ n, cx_a Y c n = cx_a X c n) (h3 : ∀ m, 946 ≤ m → md_a N 3 m = md_a M 3 m) (h5 : ∀ m, md_a N 5 m = md_a M 5 m) (h6 : ∀ m, md_a N 6 m = md_a M 6 m) : GQ Y N T :=
  GQ_b h (by rw [h6b]; exact h.1) (by rw [h6b]) (by rw [h6b]) (by obtain ⟨Ts, t1, t2, t3⟩ := h.2.1; exact ⟨Ts, t1, t2, by rw [h6b]; exact LC_c t3 hl⟩) h51 h57 h63 h3 h5 h6
/-- a call that reads: the class's side, the model's side -/
theorem RX_rd (h : RX X M) (h6b : cx_b Y 6 = cx_b X 6) (hc : ∀ c, c = 0 ∨ c = 1 → ∀ k, cx_i Y c k = cx_i X c k) (ha : ∀ c, c = 2 ∨ c = 64 → ∀ n, cx_a Y c n = cx_a X c n) (hm : ∀ k, k = 1 ∨ k = 8 ∨ k = 13 → md_i N k = md_i M k) (hn : ∀ k, k = 2 ∨ k = 3 ∨ k = 7 → ∀ n, md_a N k n = md_a M k n) : RX Y N := by
  unfold RX RR
  rw [h6b, hc 0 (Or.inl rfl), hc 1 (Or.inr rfl), hc 0 (Or.inl rfl), hm 1 (Or.inl rfl), hm 8 (by omega), hm 13 (by omega), show md_a N 3 = md_a M 3 from funext (hn 3 (by omega)), show md_a N 2 = md_a M 2 from funext (hn 2 (by omega)), show md_a N 7 = md_a M 7 from funext (hn 7 (by omega)), show cx_a Y 2 = cx_a X 2 from funext (ha 2 (by omega)), show cx_a Y 64 = cx_a X 64 from funext (ha 64 (by omega))]
  exact h
theorem GR_rd (h : GR X M T) (f : cx_fr fE X Y) (g : md_fr gA M N) (hT : TM T (cx_b X 6) Ts ∧ MT (md_a M 3) Ts) (hL : LC (abo (cx_b X 6) Ts) 24 Y) : GR Y N T := by
  have e3 : ∀ k, gA k = false → ∀ n, md_a N k n = md_a M k n := fun k hk => (g k hk).2.2.1
  have eb : ∀ c, cx_b Y c = cx_b X c := fun c => by rw [f.2.2]
  refine ⟨RX_rd h.1 (eb 6) (fun c hc => (f.1 c (by rcases hc with rfl | rfl <;> decide)).1) (fun c hc => (f.1 c (by rcases hc with rfl | rfl <;> decide)).2) (fun k hk => (g k (by rcases hk with rfl | rfl | rfl <;> decide)).1) (fun k hk => e3 k (by rcases hk with rfl | rfl | rfl <;> decide)), ?_⟩
  refine GQ_b h.2 (by rw [eb]; exact h.2.1) (by rw [eb]) (by rw [eb]) ⟨Ts, hT.1, hT.2, by rw [eb]; exact hL⟩ (eb 51) (eb 57) (f.1 63 (by decide)).2 (fun m _ => e3 3 (by decide) m) (e3 5 (by decide)) (e3 6 (by decide))
theorem VR_T {a b c e w u : Nat} (h : VR B) (ha : a < 10000) (hb : b < 10000) (hc : c < 10000) (he : e < 10000) (hw : w < 10000) (hu : u < 10000) : VR (bk_addT B (nI a) (nI b) (nI c) (nI e) (nI w) (nI u)) := by
  obtain ⟨h1, h2, h3⟩ := h
  obtain ⟨o0, o1, o2, o3, o4, o5, o6, o7⟩ := bk_addT_o (B := B) (a := nI a) (b := nI b) (c := nI c) (e := nI e) (w := nI w) (u := nI u)
  unfold VR
  rw [o0, o1, o2, o4, o6]
  refine ⟨fun i j hi hj => ?_, h2, h3⟩
  rw [bk_addT_th]
  by_cases hi2 : i = bk_tc B
  · subst hi2
    match j, hj with
    | 0, _ => rw [if_neg (by omega), if_neg (by omega), if_neg (by omega), if_neg (by omega), if_neg (by omega), if_pos (by omega)]; exact ⟨a, ha, rfl⟩
    | 1, _ => rw [if_neg (by omega), if_neg (by omega), if_neg (by omega), if_neg (by omega), if_pos (by omega)]; exact ⟨b, hb, rfl⟩
    | 2, _ => rw [if_neg (by omega), if_neg (by omega), if_neg (by omega), if_pos (by omega)]; exact ⟨c, hc, rfl⟩
    | 3, _ => rw [if_neg (by omega), if_neg (by omega), if_pos (by omega)]; exact ⟨e, he, rfl⟩
    | 4, _ => rw [if_neg (by omega), if_pos (by omega)]; exact ⟨w, hw, rfl⟩
    | 5, _ => rw [if_pos (by omega)]; exact ⟨u, hu, rfl⟩
  · rw [if_neg (by omega), if_neg (by omega), if_neg (by omega), if_neg (by omega), if_neg (by omega), if_neg (by omega)]
    exact h1 i j (by omega) hj
theorem VR_P {a b c : Nat} (h : VR B) (ha : a < 400) (hb : b < 400) (hc : c < 400) : VR (bk_addP B (nI a) (nI b) (nI c)) := by
  obtain ⟨h1, h2, h3⟩ := h
  obtain ⟨o0, o1, o2, o3, o4, o5, o6, o7⟩ := bk_addP_o (B := B) (a := nI a) (b := nI b) (c := nI c)
  unfold VR
  rw [o0, o1, o2, o4, o6]
  refine ⟨h1, fun p j hp hj => ?_, h3⟩
  rw [bk_addP_pa]
  by_cases hi2 : p = bk_pc B
  · subst hi2
    match j, hj with
    | 0, _ => rw [if_neg (by omega), if_neg (by omega), if_neg (by omega), if_pos (by omega)]; exact ⟨a, ha, rfl⟩
    | 1, _ => rw [if_neg (by omega), if_neg (by omega), if_pos (by omega)]; exact ⟨b, hb, rfl⟩
    | 2, _ => rw [if_neg (by omega), if_pos (by omega)]; exact ⟨c, hc, rfl⟩
  · rw [if_neg (by omega), if_neg (by omega), if_neg (by omega), if_neg (by omega)]
    exact h2 p j (by omega) hj
theorem VR_E {th a b c e w : Nat} (h : VR B) (ht : th < 10000) (ha : a < 10000) (hb : b < 10000) (hc : c < 10000) (he : e < 10000) (hw : w < 10000) : VR (bk_addE B p (nI th) (nI a) (nI b) (nI c) (nI e) (nI w)) := by
  obtain ⟨h1, h2, h3⟩ := h
  unfold VR
  rw [bk_addE_tc, bk_addE_pc, bk_addE_ec, bk_addE_pa, bk_addE_o.1]
  refine ⟨h1, fun p2 j hp hj => ?_, fun i j hi hj => ?_⟩
  · unfold upd
    rw [if_neg (by omega)]
    exact h2 p2 j hp hj
  · rw [bk_addE_en]
    by_cases hi2 : i = bk_ec B
    · subst hi2
      match j, hj with
      | 0, _ => rw [if_neg (by omega), if_neg (by omega), if_neg (by omega), if_neg (by omega), if_neg (by omega), if_pos (by omega)]; exact ⟨th, ht, rfl⟩
      | 1, _ => rw [if_neg (by omega), if_neg (by omega), if_neg (by omega), if_neg (by omega), if_pos (by omega)]; exact ⟨a, ha, rfl⟩
      | 2, _ => rw [if_neg (by omega), if_neg (by omega), if_neg (by omega), if_pos (by omega)]; exact ⟨b, hb, rfl⟩
      | 3, _ => rw [if_neg (by omega), if_neg (by omega), if_pos (by omega)]; exact ⟨c, hc, rfl⟩
      | 4, _ => rw [if_neg (by omega), if_pos (by omega)]; exact ⟨e, he, rfl⟩
      | 5, _ => rw [if_pos (by omega)]; exact ⟨w, hw, rfl⟩
    · rw [if_neg (by omega), if_neg (by omega), if_neg (by omega), if_neg (by omega), if_neg (by omega), if_neg (by omega), if_neg (by omega), if_neg (by omega)]
      exact h3 i j (by omega) hj
end Gr
