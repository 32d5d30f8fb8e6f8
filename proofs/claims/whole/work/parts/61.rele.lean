/-! THE RELATION: an entry more; written by wip/whole/mdl.py from rele.txt -/
section Rele
variable {B : bk_T} {r r' : Nat → Int32}
theorem bk_addE_en {p : Nat} {th a b c e w : Int32} {m : Nat} : bk_en (bk_addE B p th a b c e w) m = if m = bk_ec B * 8 + 7 then w else if m = bk_ec B * 8 + 6 then e else if m = bk_ec B * 8 + 5 then c else if m = bk_ec B * 8 + 4 then b else if m = bk_ec B * 8 + 3 then a else if m = bk_ec B * 8 + 2 then th else if m = bk_ec B * 8 + 1 then bk_pa B (p * 4 + 3) else if m = bk_ec B * 8 then nI p else bk_en B m := by
  unfold bk_addE
  simp only [be_en_tc, be_en_pc, be_en_ec, be_en_xc, be_en_th, be_en_pa, be_en_li, be_en_en, be_en_tx, upd]
theorem bk_addE_li {p : Nat} {th a b c e w : Int32} {m : Nat} : bk_li (bk_addE B p th a b c e w) m = if m = p * 12 + (bk_pa B (p * 4 + 3)).toNatClampNeg then nI (bk_ec B) else bk_li B m := by
  unfold bk_addE
  simp only [be_li_tc, be_li_pc, be_li_ec, be_li_xc, be_li_th, be_li_pa, be_li_li, be_li_en, be_li_tx, upd]
theorem bk_addE_o {p : Nat} {th a b c e w : Int32} : bk_th (bk_addE B p th a b c e w) = bk_th B ∧ bk_tx (bk_addE B p th a b c e w) = bk_tx B := by
  unfold bk_addE
  simp only [be_th_tc, be_th_pc, be_th_ec, be_th_xc, be_th_th, be_th_pa, be_th_li, be_th_en, be_th_tx, be_tx_tc, be_tx_pc, be_tx_ec, be_tx_xc, be_tx_th, be_tx_pa, be_tx_li, be_tx_en, be_tx_tx, and_self]
/-- an entry more -/
theorem RB_addE {p k : Nat} {a b c e w : Int32} (h : RB B r) (hn : bk_ec B < 120) (hp : p < bk_pc B) (hk : k < bk_tc B) (hr : rc r (nI p) (bk_ec B) < 12) (h0 : r' 2 = nI (bk_ec B + 1)) (h1 : r' (106 + 7 * bk_ec B) = nI p ∧ r' (106 + 7 * bk_ec B + 1) = nI k ∧ r' (106 + 7 * bk_ec B + 2) = a ∧ r' (106 + 7 * bk_ec B + 3) = b ∧ r' (106 + 7 * bk_ec B + 4) = c ∧ r' (106 + 7 * bk_ec B + 5) = e ∧ r' (106 + 7 * bk_ec B + 6) = w) (h2 : ∀ m, m ≠ 2 → (m < 106 + 7 * bk_ec B ∨ 106 + 7 * bk_ec B + 6 < m) → r' m = r m) : RB (bk_addE B p (nI k) a b c e w) r' := by
  obtain ⟨w0, ⟨k0, k1, k2, k3⟩, a1, a2, a3, a4, a5⟩ := h
  obtain ⟨o0, o1⟩ := bk_addE_o (B := B) (p := p) (th := nI k) (a := a) (b := b) (c := c) (e := e) (w := w)
  have hw : bk_tc B ≤ 8 ∧ bk_pc B ≤ 16 ∧ bk_ec B ≤ 120 ∧ bk_xc B ≤ 20 := w0
  obtain ⟨q0, q1, q2, q3, q4, q5, q6⟩ := h1
  have he : ∀ m, 3 ≤ m → m < 106 + 7 * bk_ec B → r' m = r m := fun m hm hl => h2 m (by omega) (Or.inl hl)
  have hc : ∀ s n, n ≤ bk_ec B → rc r' s n = rc r s n := fun s n hs => rc_cong n (fun e _ => he _ (by omega) (by omega))
  have hn2 : ∀ s i n, n ≤ bk_ec B → rn r' s i n = rn r s i n := fun s i n hs => rn_cong n (fun e _ => he _ (by omega) (by omega))
  have hs : ∀ s, rc r' s (bk_ec B + 1) = rc r s (bk_ec B) + (if nI p = s then 1 else 0) := fun s => by rw [rc, hc s _ (Nat.le_refl _), q0]
  have hne : ∀ p2, p2 < bk_pc B → p ≠ p2 → nI p ≠ nI p2 := fun p2 hp2 h3 z => by
    rw [ms_nI_eq (by omega) (by omega)] at z
    exact h3 z
  have hpa : bk_pa B (p * 4 + 3) = nI (rc r (nI p) (bk_ec B)) := (a3 p hp).2
  unfold RB bk_w
  rw [bk_addE_tc, bk_addE_pc, bk_addE_ec, bk_addE_xc, bk_addE_pa, o0]
  refine ⟨⟨hw.1, hw.2.1, hn, hw.2.2.2⟩, ⟨by rw [h2 0 (by omega) (by omega), k0], by rw [h2 1 (by omega) (by omega), k1], h0, by rw [h2 3 (by omega) (by omega), k3]⟩, fun t j ht hj => ?_, fun p2 j hp2 hj => ?_, fun p2 hp2 => ?_, fun e1 he1 => ?_, fun p2 i hp2 hi => ?_⟩
  · rw [a1 t j ht hj, he _ (by omega) (by omega)]
  · unfold upd
    rw [if_neg (by omega), a2 p2 j hp2 hj, he _ (by omega) (by omega)]
  · rw [hs]
    unfold upd
    by_cases h3 : p = p2
    · subst h3
      rw [if_pos rfl, if_pos rfl, hpa]
      exact ⟨by omega, ms_p1 1⟩
    · rw [if_neg (hne p2 hp2 h3), if_neg (by omega)]
      exact a3 p2 hp2
  · by_cases h3 : e1 = bk_ec B
    · subst h3
      refine ⟨⟨?_, ?_, fun j hj => ?_⟩, ⟨p, hp, q0⟩, ⟨k, hk, q1⟩⟩
      · rw [bk_addE_en, if_neg (by omega), if_neg (by omega), if_neg (by omega), if_neg (by omega), if_neg (by omega), if_neg (by omega), if_neg (by omega), if_pos rfl, q0]
      · rw [bk_addE_en, if_neg (by omega), if_neg (by omega), if_neg (by omega), if_neg (by omega), if_neg (by omega), if_neg (by omega), if_pos rfl, q0, hc _ _ (Nat.le_refl _), hpa]
      · rw [bk_addE_en]
        match j, hj with
        | 0, _ => rw [if_neg (by omega), if_neg (by omega), if_neg (by omega), if_neg (by omega), if_neg (by omega), if_pos rfl]; exact q1.symm
        | 1, _ => rw [if_neg (by omega), if_neg (by omega), if_neg (by omega), if_neg (by omega), if_pos rfl]; exact q2.symm
        | 2, _ => rw [if_neg (by omega), if_neg (by omega), if_neg (by omega), if_pos rfl]; exact q3.symm
        | 3, _ => rw [if_neg (by omega), if_neg (by omega), if_pos rfl]; exact q4.symm
        | 4, _ => rw [if_neg (by omega), if_pos rfl]; exact q5.symm
        | 5, _ => rw [if_pos rfl]; exact q6.symm
    · have hen : ∀ m, m < bk_ec B * 8 → bk_en (bk_addE B p (nI k) a b c e w) m = bk_en B m := fun m hm => by
        rw [bk_addE_en, if_neg (by omega), if_neg (by omega), if_neg (by omega), if_neg (by omega), if_neg (by omega), if_neg (by omega), if_neg (by omega), if_neg (by omega)]
      rw [he _ (by omega) (by omega), he _ (by omega) (by omega), hc _ _ (by omega), hen _ (by omega), hen _ (by omega)]
      obtain ⟨⟨e1a, e1b, e1c⟩, e2, e3⟩ := a4 e1 (by omega)
      refine ⟨⟨e1a, e1b, fun j hj => ?_⟩, e2, e3⟩
      rw [hen _ (by omega), e1c j hj, he _ (by omega) (by omega)]
  · rw [hs] at hi
    have h12 := (a3 p2 hp2).1
    rw [bk_addE_li, hpa, ms_nc (by omega), rn, hc _ _ (Nat.le_refl _), hn2 _ _ _ (Nat.le_refl _), q0]
    by_cases h3 : p = p2
    · subst h3
      rw [if_pos rfl] at hi
      by_cases h4 : i = rc r (nI p) (bk_ec B)
      · rw [if_pos (by omega), if_pos ⟨rfl, by rw [h4]⟩]
      · rw [if_neg (by omega), if_neg (fun z => h4 (by have := z.2; rw [ms_nI_eq (by omega) (by omega)] at this; exact this.symm)), a5 p i hp2 (by omega)]
    · rw [if_neg (hne p2 hp2 h3)] at hi
      rw [if_neg (by omega), if_neg (fun z => hne p2 hp2 h3 z.1), a5 p2 i hp2 (by omega)]
end Rele
