/-! THE RELATION of a Book and the model's row: written by wip/whole/mdl.py from rel.txt -/
def rc (r : Nat → Int32) (p : Int32) : Nat → Nat
  | 0 => 0
  | e + 1 => rc r p e + (if r (106 + 7 * e) = p then 1 else 0)
def rn (r : Nat → Int32) (p i : Int32) : Nat → Int32
  | 0 => -1
  | e + 1 => if r (106 + 7 * e) = p ∧ nI (rc r p e) = i then nI e else rn r p i e
theorem md_cnt_rc {M : md_T} {p : Int32} (e : Nat) : md_cnt M p e = rc (md_a M 3) p e := by
  induction e with
  | zero => rfl
  | succ e ih => rw [md_cnt, rc, ih]
theorem md_nth_rn {M : md_T} {p i : Int32} (e : Nat) : md_nth M p i e = rn (md_a M 3) p i e := by
  induction e with
  | zero => rfl
  | succ e ih => rw [md_nth, rn, ih, md_cnt_rc]
theorem rc_le {r : Nat → Int32} {p : Int32} (e : Nat) : rc r p e ≤ e := by
  induction e with
  | zero => exact Nat.le_refl _
  | succ e ih => unfold rc; split <;> omega
theorem rc_cong {r r' : Nat → Int32} {p : Int32} (n : Nat) (h : ∀ e, e < n → r' (106 + 7 * e) = r (106 + 7 * e)) : rc r' p n = rc r p n := by
  induction n with
  | zero => rfl
  | succ n ih => rw [rc, rc, ih (fun e he => h e (by omega)), h n (by omega)]
theorem rn_cong {r r' : Nat → Int32} {p i : Int32} (n : Nat) (h : ∀ e, e < n → r' (106 + 7 * e) = r (106 + 7 * e)) : rn r' p i n = rn r p i n := by
  induction n with
  | zero => rfl
  | succ n ih => rw [rn, rn, ih (fun e he => h e (by omega)), h n (by omega), rc_cong n (fun e he => h e (by omega))]
def RB (B : bk_T) (r : Nat → Int32) : Prop := bk_w B ∧ (r 0 = nI (bk_tc B) ∧ r 1 = nI (bk_pc B) ∧ r 2 = nI (bk_ec B) ∧ r 3 = nI (bk_xc B)) ∧ (∀ t j, t < bk_tc B → j < 6 → bk_th B (t * 6 + j) = r (10 + 6 * t + j)) ∧ (∀ p j, p < bk_pc B → j < 3 → bk_pa B (p * 4 + j) = r (58 + 3 * p + j)) ∧ (∀ p, p < bk_pc B → rc r (nI p) (bk_ec B) ≤ 12 ∧ bk_pa B (p * 4 + 3) = nI (rc r (nI p) (bk_ec B))) ∧ (∀ e, e < bk_ec B → (bk_en B (e * 8) = r (106 + 7 * e) ∧ bk_en B (e * 8 + 1) = nI (rc r (r (106 + 7 * e)) e) ∧ (∀ j, j < 6 → bk_en B (e * 8 + 2 + j) = r (106 + 7 * e + 1 + j))) ∧ (∃ p, p < bk_pc B ∧ r (106 + 7 * e) = nI p) ∧ (∃ t, t < bk_tc B ∧ r (106 + 7 * e + 1) = nI t)) ∧ (∀ p i, p < bk_pc B → i < rc r (nI p) (bk_ec B) → bk_li B (p * 12 + i) = rn r (nI p) (nI i) (bk_ec B))
theorem RB.sz {B : bk_T} {r : Nat → Int32} (h : RB B r) : bk_sz B := fun p hp => ⟨_, (h.2.2.2.2.1 p hp).1, (h.2.2.2.2.1 p hp).2⟩
section Rel
variable {B : bk_T} {r r' : Nat → Int32}
theorem bk_addT_th {a b c e w u : Int32} {m : Nat} : bk_th (bk_addT B a b c e w u) m = if m = bk_tc B * 6 + 5 then u else if m = bk_tc B * 6 + 4 then w else if m = bk_tc B * 6 + 3 then e else if m = bk_tc B * 6 + 2 then c else if m = bk_tc B * 6 + 1 then b else if m = bk_tc B * 6 then a else bk_th B m := by
  unfold bk_addT
  simp only [be_th_tc, be_th_pc, be_th_ec, be_th_xc, be_th_th, be_th_pa, be_th_li, be_th_en, be_th_tx, upd]
theorem bk_addT_o {a b c e w u : Int32} : bk_tc (bk_addT B a b c e w u) = bk_tc B + 1 ∧ bk_pc (bk_addT B a b c e w u) = bk_pc B ∧ bk_ec (bk_addT B a b c e w u) = bk_ec B ∧ bk_xc (bk_addT B a b c e w u) = bk_xc B ∧ bk_pa (bk_addT B a b c e w u) = bk_pa B ∧ bk_li (bk_addT B a b c e w u) = bk_li B ∧ bk_en (bk_addT B a b c e w u) = bk_en B ∧ bk_tx (bk_addT B a b c e w u) = bk_tx B := by
  unfold bk_addT
  simp only [be_tc_tc, be_tc_pc, be_tc_ec, be_tc_xc, be_tc_th, be_tc_pa, be_tc_li, be_tc_en, be_tc_tx, be_pc_tc, be_pc_pc, be_pc_ec, be_pc_xc, be_pc_th, be_pc_pa, be_pc_li, be_pc_en, be_pc_tx, be_ec_tc, be_ec_pc, be_ec_ec, be_ec_xc, be_ec_th, be_ec_pa, be_ec_li, be_ec_en, be_ec_tx, be_xc_tc, be_xc_pc, be_xc_ec, be_xc_xc, be_xc_th, be_xc_pa, be_xc_li, be_xc_en, be_xc_tx, be_pa_tc, be_pa_pc, be_pa_ec, be_pa_xc, be_pa_th, be_pa_pa, be_pa_li, be_pa_en, be_pa_tx, be_li_tc, be_li_pc, be_li_ec, be_li_xc, be_li_th, be_li_pa, be_li_li, be_li_en, be_li_tx, be_en_tc, be_en_pc, be_en_ec, be_en_xc, be_en_th, be_en_pa, be_en_li, be_en_en, be_en_tx, be_tx_tc, be_tx_pc, be_tx_ec, be_tx_xc, be_tx_th, be_tx_pa, be_tx_li, be_tx_en, be_tx_tx, and_self]
/-- a thing more -/
theorem RB_addT {a b c e w u : Int32} (h : RB B r) (hn : bk_tc B < 8) (h0 : r' 0 = nI (bk_tc B + 1)) (h1 : r' (10 + 6 * bk_tc B) = a ∧ r' (10 + 6 * bk_tc B + 1) = b ∧ r' (10 + 6 * bk_tc B + 2) = c ∧ r' (10 + 6 * bk_tc B + 3) = e ∧ r' (10 + 6 * bk_tc B + 4) = w ∧ r' (10 + 6 * bk_tc B + 5) = u) (h2 : ∀ m, m ≠ 0 → (m < 10 + 6 * bk_tc B ∨ 10 + 6 * bk_tc B + 5 < m) → r' m = r m) : RB (bk_addT B a b c e w u) r' := by
  obtain ⟨w0, ⟨k0, k1, k2, k3⟩, a1, a2, a3, a4, a5⟩ := h
  obtain ⟨o0, o1, o2, o3, o4, o5, o6, o7⟩ := bk_addT_o (B := B) (a := a) (b := b) (c := c) (e := e) (w := w) (u := u)
  have hw : bk_tc B ≤ 8 ∧ bk_pc B ≤ 16 ∧ bk_ec B ≤ 120 ∧ bk_xc B ≤ 20 := w0
  have he : ∀ m, 58 ≤ m → r' m = r m := fun m hm => h2 m (by omega) (by omega)
  have hc : ∀ p n, rc r' p n = rc r p n := fun p n => rc_cong n (fun e _ => he _ (by omega))
  have hn2 : ∀ p i n, rn r' p i n = rn r p i n := fun p i n => rn_cong n (fun e _ => he _ (by omega))
  unfold RB bk_w
  rw [o0, o1, o2, o3, o4, o5, o6]
  refine ⟨⟨hn, hw.2.1, hw.2.2.1, hw.2.2.2⟩, ⟨h0, by rw [h2 1 (by omega) (by omega), k1], by rw [h2 2 (by omega) (by omega), k2], by rw [h2 3 (by omega) (by omega), k3]⟩, fun t j ht hj => ?_, fun p j hp hj => ?_, fun p hp => ?_, fun e1 he1 => ?_, fun p i hp hi => ?_⟩
  · rw [bk_addT_th]
    by_cases ht2 : t = bk_tc B
    · subst ht2
      obtain ⟨q0, q1, q2, q3, q4, q5⟩ := h1
      match j, hj with
      | 0, _ => rw [if_neg (by omega), if_neg (by omega), if_neg (by omega), if_neg (by omega), if_neg (by omega), if_pos (by omega)]; exact q0.symm
      | 1, _ => rw [if_neg (by omega), if_neg (by omega), if_neg (by omega), if_neg (by omega), if_pos (by omega)]; exact q1.symm
      | 2, _ => rw [if_neg (by omega), if_neg (by omega), if_neg (by omega), if_pos (by omega)]; exact q2.symm
      | 3, _ => rw [if_neg (by omega), if_neg (by omega), if_pos (by omega)]; exact q3.symm
      | 4, _ => rw [if_neg (by omega), if_pos (by omega)]; exact q4.symm
      | 5, _ => rw [if_pos (by omega)]; exact q5.symm
    · rw [if_neg (by omega), if_neg (by omega), if_neg (by omega), if_neg (by omega), if_neg (by omega), if_neg (by omega), a1 t j (by omega) hj, h2 _ (by omega) (by omega)]
  · rw [a2 p j hp hj, he _ (by omega)]
  · rw [hc]
    exact a3 p hp
  · rw [he _ (by omega), he _ (by omega), hc]
    obtain ⟨⟨e1a, e1b, e1c⟩, e2, t2, t3, t4⟩ := a4 e1 he1
    refine ⟨⟨e1a, e1b, fun j hj => ?_⟩, e2, t2, by omega, t4⟩
    rw [e1c j hj, he _ (by omega)]
  · rw [hc] at hi
    rw [a5 p i hp hi, hn2]
theorem bk_addP_pa {a b c : Int32} {m : Nat} : bk_pa (bk_addP B a b c) m = if m = bk_pc B * 4 + 3 then 0 else if m = bk_pc B * 4 + 2 then c else if m = bk_pc B * 4 + 1 then b else if m = bk_pc B * 4 then a else bk_pa B m := by
  unfold bk_addP
  simp only [be_pa_tc, be_pa_pc, be_pa_ec, be_pa_xc, be_pa_th, be_pa_pa, be_pa_li, be_pa_en, be_pa_tx, upd]
theorem bk_addP_o {a b c : Int32} : bk_tc (bk_addP B a b c) = bk_tc B ∧ bk_pc (bk_addP B a b c) = bk_pc B + 1 ∧ bk_ec (bk_addP B a b c) = bk_ec B ∧ bk_xc (bk_addP B a b c) = bk_xc B ∧ bk_th (bk_addP B a b c) = bk_th B ∧ bk_li (bk_addP B a b c) = bk_li B ∧ bk_en (bk_addP B a b c) = bk_en B ∧ bk_tx (bk_addP B a b c) = bk_tx B := by
  unfold bk_addP
  simp only [be_tc_tc, be_tc_pc, be_tc_ec, be_tc_xc, be_tc_th, be_tc_pa, be_tc_li, be_tc_en, be_tc_tx, be_pc_tc, be_pc_pc, be_pc_ec, be_pc_xc, be_pc_th, be_pc_pa, be_pc_li, be_pc_en, be_pc_tx, be_ec_tc, be_ec_pc, be_ec_ec, be_ec_xc, be_ec_th, be_ec_pa, be_ec_li, be_ec_en, be_ec_tx, be_xc_tc, be_xc_pc, be_xc_ec, be_xc_xc, be_xc_th, be_xc_pa, be_xc_li, be_xc_en, be_xc_tx, be_th_tc, be_th_pc, be_th_ec, be_th_xc, be_th_th, be_th_pa, be_th_li, be_th_en, be_th_tx, be_li_tc, be_li_pc, be_li_ec, be_li_xc, be_li_th, be_li_pa, be_li_li, be_li_en, be_li_tx, be_en_tc, be_en_pc, be_en_ec, be_en_xc, be_en_th, be_en_pa, be_en_li, be_en_en, be_en_tx, be_tx_tc, be_tx_pc, be_tx_ec, be_tx_xc, be_tx_th, be_tx_pa, be_tx_li, be_tx_en, be_tx_tx, and_self]
theorem rc_zero {p : Int32} (n : Nat) (h : ∀ e, e < n → r (106 + 7 * e) ≠ p) : rc r p n = 0 := by
  induction n with
  | zero => rfl
  | succ n ih => rw [rc, ih (fun e he => h e (by omega)), if_neg (h n (by omega))]
/-- a paper more -/
theorem RB_addP {a b c : Int32} (h : RB B r) (hn : bk_pc B < 16) (h0 : r' 1 = nI (bk_pc B + 1)) (h1 : r' (58 + 3 * bk_pc B) = a ∧ r' (58 + 3 * bk_pc B + 1) = b ∧ r' (58 + 3 * bk_pc B + 2) = c) (h2 : ∀ m, m ≠ 1 → (m < 58 + 3 * bk_pc B ∨ 58 + 3 * bk_pc B + 2 < m) → r' m = r m) : RB (bk_addP B a b c) r' := by
  obtain ⟨w0, ⟨k0, k1, k2, k3⟩, a1, a2, a3, a4, a5⟩ := h
  obtain ⟨o0, o1, o2, o3, o4, o5, o6, o7⟩ := bk_addP_o (B := B) (a := a) (b := b) (c := c)
  have hw : bk_tc B ≤ 8 ∧ bk_pc B ≤ 16 ∧ bk_ec B ≤ 120 ∧ bk_xc B ≤ 20 := w0
  have he : ∀ m, 106 ≤ m → r' m = r m := fun m hm => h2 m (by omega) (by omega)
  have hc : ∀ p n, rc r' p n = rc r p n := fun p n => rc_cong n (fun e _ => he _ (by omega))
  have hn2 : ∀ p i n, rn r' p i n = rn r p i n := fun p i n => rn_cong n (fun e _ => he _ (by omega))
  have hz : rc r (nI (bk_pc B)) (bk_ec B) = 0 := rc_zero _ (fun e he e2 => by
    obtain ⟨_, ⟨p, hp, ep⟩, _⟩ := a4 e he
    rw [ep, ms_nI_eq (by omega) (by omega)] at e2
    omega)
  unfold RB bk_w
  rw [o0, o1, o2, o3, o4, o5, o6]
  refine ⟨⟨hw.1, hn, hw.2.2.1, hw.2.2.2⟩, ⟨by rw [h2 0 (by omega) (by omega), k0], h0, by rw [h2 2 (by omega) (by omega), k2], by rw [h2 3 (by omega) (by omega), k3]⟩, fun t j ht hj => ?_, fun p j hp hj => ?_, fun p hp => ?_, fun e1 he1 => ?_, fun p i hp hi => ?_⟩
  · rw [a1 t j ht hj, h2 _ (by omega) (by omega)]
  · rw [bk_addP_pa]
    by_cases hp2 : p = bk_pc B
    · subst hp2
      obtain ⟨q0, q1, q2⟩ := h1
      match j, hj with
      | 0, _ => rw [if_neg (by omega), if_neg (by omega), if_neg (by omega), if_pos (by omega)]; exact q0.symm
      | 1, _ => rw [if_neg (by omega), if_neg (by omega), if_pos (by omega)]; exact q1.symm
      | 2, _ => rw [if_neg (by omega), if_pos (by omega)]; exact q2.symm
    · rw [if_neg (by omega), if_neg (by omega), if_neg (by omega), if_neg (by omega), a2 p j (by omega) hj, h2 _ (by omega) (by omega)]
  · rw [hc, bk_addP_pa]
    by_cases hp2 : p = bk_pc B
    · subst hp2
      rw [if_pos rfl, hz]
      exact ⟨by omega, rfl⟩
    · rw [if_neg (by omega), if_neg (by omega), if_neg (by omega), if_neg (by omega)]
      exact a3 p (by omega)
  · rw [he _ (by omega), he _ (by omega), hc]
    obtain ⟨⟨e1a, e1b, e1c⟩, ⟨p2, p3, p4⟩, e3⟩ := a4 e1 he1
    refine ⟨⟨e1a, e1b, fun j hj => ?_⟩, ⟨p2, by omega, p4⟩, e3⟩
    rw [e1c j hj, he _ (by omega)]
  · rw [hc] at hi
    by_cases hp2 : p = bk_pc B
    · subst hp2
      rw [hz] at hi
      omega
    · rw [a5 p i (by omega) hi, hn2]
end Rel
