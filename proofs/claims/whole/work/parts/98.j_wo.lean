/-! A WORLD MADE: papers and entries more, as numbers; written by wip/whole/mdl.py from j_wo.txt -/
def wA0 (A : ab_T) : ab_T := ((ab_t A, 0, 0), A.2)
def wAP (A : ab_T) (y c dd : Nat) : ab_T := ((ab_t A, ab_p A + 1, ab_e A), A.2.1, (fun i j => if i = ab_p A then (if j = 0 then y else if j = 1 then c else if j = 2 then dd else 0) else ab_pa A i j), A.2.2.2)
def wAE (A : ab_T) (p t : Nat) (f : Nat → Nat) (cl : Nat) : ab_T := ((ab_t A, ab_p A, ab_e A + 1), A.2.1, A.2.2.1, (fun i j => if i = ab_e A then (if j = 0 then p else if j = 1 then t else if j < 6 then f (j - 2) else if j = 6 then cl else 0) else ab_en A i j), A.2.2.2.2)
def wAS (A : ab_T) (e fi v : Nat) : ab_T := (A.1, A.2.1, A.2.2.1, (fun i j => if i = e ∧ j = 2 + fi then v else ab_en A i j), A.2.2.2.2)
section Wo
variable {A : ab_T} {B S D : bk_T} {y c dd p t cl e fi v q k n i j : Nat} {f : Nat → Nat} {r r' : Nat → Int32}
theorem wAE_en : ab_en (wAE A p t f cl) i j = if i = ab_e A then (if j = 0 then p else if j = 1 then t else if j < 6 then f (j - 2) else if j = 6 then cl else 0) else ab_en A i j := rfl
theorem wAS_en : ab_en (wAS A e fi v) i j = if i = e ∧ j = 2 + fi then v else ab_en A i j := rfl
theorem wAP_pa : ab_pa (wAP A y c dd) i j = if i = ab_p A then (if j = 0 then y else if j = 1 then c else if j = 2 then dd else 0) else ab_pa A i j := rfl
theorem filt_c {P P2 : Nat → Bool} (h : ∀ i, i < n → P i = P2 i) : (List.range n).filter P = (List.range n).filter P2 := List.filter_congr (fun x hx => h x (List.mem_range.mp hx))
theorem wAE_l : ab_l (wAE A p t f cl) q = if q = p then ab_l A q ++ [ab_e A] else ab_l A q := by
  unfold ab_l
  rw [show ab_e (wAE A p t f cl) = ab_e A + 1 from rfl, filt_s, show (List.range (ab_e A)).filter (fun e => decide (ab_en (wAE A p t f cl) e 0 = q)) = (List.range (ab_e A)).filter (fun e => decide (ab_en A e 0 = q)) from filt_c (fun i hi => by rw [wAE_en, if_neg (by omega)])]
  rw [wAE_en, if_pos rfl, if_pos rfl]
  by_cases hq : q = p
  · rw [if_pos hq, if_pos (decide_eq_true hq.symm)]
  · rw [if_neg hq, decide_eq_false (fun z => hq z.symm), if_neg (by decide), List.append_nil]
theorem wAE_n1 (he : e < ab_e A) : ab_n (wAE A p t f cl) e = ab_n A e := by
  unfold ab_n
  rw [show (List.range e).filter (fun g => decide (ab_en (wAE A p t f cl) g 0 = ab_en (wAE A p t f cl) e 0)) = (List.range e).filter (fun g => decide (ab_en A g 0 = ab_en A e 0)) from filt_c (fun i hi => by rw [wAE_en, if_neg (by omega), wAE_en, if_neg (by omega)])]
theorem wAE_n2 : ab_n (wAE A p t f cl) (ab_e A) = (ab_l A p).length := by
  unfold ab_n ab_l
  rw [show (List.range (ab_e A)).filter (fun g => decide (ab_en (wAE A p t f cl) g 0 = ab_en (wAE A p t f cl) (ab_e A) 0)) = (List.range (ab_e A)).filter (fun e => decide (ab_en A e 0 = p)) from filt_c (fun i hi => by rw [wAE_en, if_neg (by omega), wAE_en, if_pos rfl, if_pos rfl])]
theorem wAS_0 : ab_en (wAS A e fi v) i 0 = ab_en A i 0 := by rw [wAS_en, if_neg (by omega)]
theorem wAS_1 : ab_en (wAS A e fi v) i 1 = ab_en A i 1 := by rw [wAS_en, if_neg (by omega)]
theorem wAS_l : ab_l (wAS A e fi v) q = ab_l A q := by
  unfold ab_l
  rw [show ab_e (wAS A e fi v) = ab_e A from rfl]
  exact filt_c (fun i _ => by rw [wAS_0])
theorem wAS_n {g : Nat} : ab_n (wAS A e fi v) g = ab_n A g := by
  unfold ab_n
  rw [show (List.range g).filter (fun f => decide (ab_en (wAS A e fi v) f 0 = ab_en (wAS A e fi v) g 0)) = (List.range g).filter (fun f => decide (ab_en A f 0 = ab_en A g 0)) from filt_c (fun i _ => by rw [wAS_0, wAS_0])]
theorem wAP_l0 (hw : ab_w A) : ab_l (wAP A y c dd) (ab_p A) = [] := by
  show (List.range (ab_e A)).filter (fun e => decide (ab_en A e 0 = ab_p A)) = []
  refine List.filter_eq_nil_iff.mpr (fun x hx => ?_)
  have := (hw.2.2.2.2.1 x (List.mem_range.mp hx)).1
  rw [decide_eq_true_eq]
  omega
theorem RA_0 (h : RA A B) : RA (wA0 A) (bk_sec (bk_spc B 0) 0) := by
  obtain ⟨⟨h1, h2, h3, h4⟩, h5, _⟩ := h
  exact ⟨⟨h1, rfl, rfl, h4⟩, h5, fun p j hp => absurd hp (Nat.not_lt_zero _), fun p hp => absurd hp (Nat.not_lt_zero _), fun p i e hp => absurd hp (Nat.not_lt_zero _), fun e he => absurd he (Nat.not_lt_zero _)⟩
theorem RA_cp (h : RA A S) (hw : ab_w A) : RA A (bk_cp D S) := by
  obtain ⟨h1, h5, h6, h7, h8, h9⟩ := h
  obtain ⟨⟨w1, w2, w3, w4⟩, _, _, _, _, w9⟩ := hw
  have t : ∀ m, m < 48 → bk_th (bk_cp D S) m = bk_th S m := fun m hm => by
    show (if 0 ≤ m ∧ m < 0 + 48 then bk_th S (0 + (m - 0)) else _) = _
    rw [if_pos (by omega), show 0 + (m - 0) = m by omega]
  have pa : ∀ m, m < 64 → bk_pa (bk_cp D S) m = bk_pa S m := fun m hm => by
    show (if 0 ≤ m ∧ m < 0 + 64 then bk_pa S (0 + (m - 0)) else _) = _
    rw [if_pos (by omega), show 0 + (m - 0) = m by omega]
  have li : ∀ m, m < 192 → bk_li (bk_cp D S) m = bk_li S m := fun m hm => by
    show (if 0 ≤ m ∧ m < 0 + 192 then bk_li S (0 + (m - 0)) else _) = _
    rw [if_pos (by omega), show 0 + (m - 0) = m by omega]
  have en : ∀ m, m < 960 → bk_en (bk_cp D S) m = bk_en S m := fun m hm => by
    show (if 0 ≤ m ∧ m < 0 + 960 then bk_en S (0 + (m - 0)) else _) = _
    rw [if_pos (by omega), show 0 + (m - 0) = m by omega]
  refine ⟨h1, fun i j hi hj => ?_, fun p j hp hj => ?_, fun p hp => ?_, fun p i e hp he => ?_, fun e he => ⟨?_, ?_, fun j hj => ?_⟩⟩
  · rw [t _ (by omega)]; exact h5 i j hi hj
  · rw [pa _ (by omega)]; exact h6 p j hp hj
  · rw [pa _ (by omega)]; exact h7 p hp
  · have : i < (ab_l A p).length := (List.getElem?_eq_some_iff.mp he).1
    have := w9 p
    rw [li _ (by omega)]; exact h8 p i e hp he
  · rw [en _ (by omega)]; exact (h9 e he).1
  · rw [en _ (by omega)]; exact (h9 e he).2.1
  · rw [en _ (by omega)]; exact (h9 e he).2.2 j hj
theorem RA_P (h : RA A B) (hw : ab_w A) : RA (wAP A y c dd) (bk_addP B (nI y) (nI c) (nI dd)) := by
  obtain ⟨⟨h1, h2, h3, h4⟩, h5, h6, h7, h8, h9⟩ := h
  obtain ⟨o0, o1, o2, o3, o4, o5, o6, o7⟩ := bk_addP_o (B := B) (a := nI y) (b := nI c) (c := nI dd)
  unfold RA
  rw [o0, o1, o2, o3, o4, o5, o6, h2]
  refine ⟨⟨h1, rfl, h3, h4⟩, h5, fun p j hp hj => ?_, fun p hp => ?_, fun p i e hp he => ?_, h9⟩
  · have hp' : p < ab_p A + 1 := hp
    rw [bk_addP_pa, h2, wAP_pa]
    by_cases hp2 : p = ab_p A
    · subst hp2
      rw [if_pos rfl]
      match j, hj with
      | 0, _ => rw [if_neg (by omega), if_neg (by omega), if_neg (by omega), if_pos (by omega)]; rfl
      | 1, _ => rw [if_neg (by omega), if_neg (by omega), if_pos (by omega)]; rfl
      | 2, _ => rw [if_neg (by omega), if_pos (by omega)]; rfl
    · rw [if_neg (by omega), if_neg (by omega), if_neg (by omega), if_neg (by omega), if_neg hp2]
      exact h6 p j (by omega) hj
  · have hp' : p < ab_p A + 1 := hp
    rw [bk_addP_pa, h2]
    by_cases hp2 : p = ab_p A
    · subst hp2
      rw [if_pos rfl, wAP_l0 hw]
      rfl
    · rw [if_neg (by omega), if_neg (by omega), if_neg (by omega), if_neg (by omega)]
      exact h7 p (by omega)
  · have hp' : p < ab_p A + 1 := hp
    by_cases hp2 : p = ab_p A
    · subst hp2
      rw [wAP_l0 hw] at he
      cases he
    · exact h8 p i e (by omega) he
theorem RA_S (h : RA A B) (he : e < ab_e A) (hf : fi < 4) : RA (wAS A e fi v) (bk_uen B (e * 8 + 3 + fi) (nI v)) := by
  obtain ⟨h1, h5, h6, h7, h8, h9⟩ := h
  refine ⟨h1, h5, h6, fun p hp => ?_, fun p i e hp he => ?_, fun g hg => ?_⟩
  · rw [wAS_l]
    exact h7 p hp
  · rw [wAS_l] at he
    exact h8 p i e hp he
  · obtain ⟨g1, g2, g3⟩ := h9 g hg
    have en : ∀ m, bk_en (bk_uen B (e * 8 + 3 + fi) (nI v)) m = if m = e * 8 + 3 + fi then nI v else bk_en B m := fun m => rfl
    refine ⟨?_, ?_, fun j hj => ?_⟩
    · rw [en, if_neg (by omega), wAS_0]
      exact g1
    · rw [en, if_neg (by omega), wAS_n]
      exact g2
    · rw [en, wAS_en]
      by_cases hc : g = e ∧ 1 + j = 2 + fi
      · rw [if_pos hc, if_pos (by omega)]
      · rw [if_neg hc, if_neg (by omega)]
        exact g3 j hj
theorem RA_E (h : RA A B) (hw : ab_w A) (hp : p < ab_p A) (hl : (ab_l A p).length < 12) : RA (wAE A p t f cl) (bk_addE B p (nI t) (nI (f 0)) (nI (f 1)) (nI (f 2)) (nI (f 3)) (nI cl)) := by
  obtain ⟨⟨h1, h2, h3, h4⟩, h5, h6, h7, h8, h9⟩ := h
  obtain ⟨o0, o1⟩ := bk_addE_o (B := B) (p := p) (th := nI t) (a := nI (f 0)) (b := nI (f 1)) (c := nI (f 2)) (e := nI (f 3)) (w := nI cl)
  have hpa := h7 p hp
  unfold RA
  rw [bk_addE_tc, bk_addE_pc, bk_addE_ec, bk_addE_xc, bk_addE_pa, o0, h3]
  refine ⟨⟨h1, h2, rfl, h4⟩, h5, fun q j hq hj => ?_, fun q hq => ?_, fun q i e hq he => ?_, fun e he => ?_⟩
  · unfold upd
    rw [if_neg (by omega)]
    exact h6 q j hq hj
  · rw [wAE_l]
    unfold upd
    by_cases hqp : q = p
    · subst hqp
      rw [if_pos rfl, if_pos rfl, hpa, List.length_append]
      exact ms_p1 1
    · rw [if_neg (by omega), if_neg hqp]
      exact h7 q hq
  · rw [bk_addE_li, hpa, ms_nc (by omega), h3]
    rw [wAE_l] at he
    by_cases hqp : q = p
    · subst hqp
      rw [if_pos rfl] at he
      by_cases hi : i = (ab_l A q).length
      · subst hi
        rw [if_pos rfl]
        rw [List.getElem?_append_right (Nat.le_refl _), Nat.sub_self] at he
        cases he
        rfl
      · rw [if_neg (by omega)]
        by_cases hi2 : i < (ab_l A q).length
        · rw [List.getElem?_append_left hi2] at he
          exact h8 q i e hq he
        · rw [List.getElem?_eq_none (by rw [List.length_append, List.length_singleton]; omega)] at he
          cases he
    · rw [if_neg hqp] at he
      have hi : i < (ab_l A q).length := (List.getElem?_eq_some_iff.mp he).1
      have := hw.2.2.2.2.2 q
      rw [if_neg (by omega)]
      exact h8 q i e hq he
  · have he' : e < ab_e A + 1 := he
    by_cases hee : e = ab_e A
    · subst hee
      refine ⟨?_, ?_, fun j hj => ?_⟩
      · rw [bk_addE_en, h3, if_neg (by omega), if_neg (by omega), if_neg (by omega), if_neg (by omega), if_neg (by omega), if_neg (by omega), if_neg (by omega), if_pos rfl, wAE_en, if_pos rfl, if_pos rfl]
      · rw [bk_addE_en, h3, if_neg (by omega), if_neg (by omega), if_neg (by omega), if_neg (by omega), if_neg (by omega), if_neg (by omega), if_pos rfl, wAE_n2, hpa]
      · rw [bk_addE_en, h3, wAE_en, if_pos rfl]
        match j, hj with
        | 0, _ => rw [if_neg (by omega), if_neg (by omega), if_neg (by omega), if_neg (by omega), if_neg (by omega), if_pos rfl]; rfl
        | 1, _ => rw [if_neg (by omega), if_neg (by omega), if_neg (by omega), if_neg (by omega), if_pos rfl]; rfl
        | 2, _ => rw [if_neg (by omega), if_neg (by omega), if_neg (by omega), if_pos rfl]; rfl
        | 3, _ => rw [if_neg (by omega), if_neg (by omega), if_pos rfl]; rfl
        | 4, _ => rw [if_neg (by omega), if_pos rfl]; rfl
        | 5, _ => rw [if_pos rfl]; rfl
    · have hen : ∀ m, m < ab_e A * 8 → bk_en (bk_addE B p (nI t) (nI (f 0)) (nI (f 1)) (nI (f 2)) (nI (f 3)) (nI cl)) m = bk_en B m := fun m hm => by
        rw [bk_addE_en, h3, if_neg (by omega), if_neg (by omega), if_neg (by omega), if_neg (by omega), if_neg (by omega), if_neg (by omega), if_neg (by omega), if_neg (by omega)]
      obtain ⟨g1, g2, g3⟩ := h9 e (by omega)
      rw [hen _ (by omega), hen _ (by omega), wAE_n1 (by omega), wAE_en, if_neg hee]
      refine ⟨g1, g2, fun j hj => ?_⟩
      rw [hen _ (by omega), wAE_en, if_neg hee]
      exact g3 j hj
end Wo
