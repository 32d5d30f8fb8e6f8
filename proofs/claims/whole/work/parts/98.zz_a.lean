/-! THE MODEL READS A CLAUSE; written by wip/whole/mdl.py from zz_a.txt -/
def gCl (k : Nat) : Bool := decide (9 ≤ k ∧ k ≤ 24)
def g16 (k : Nat) : Bool := decide (k = 16)
/-- between two expressions -/
def YS (b : Nat → Nat) (n s lv c : Nat) (o a : Nat → Nat) (M : md_T) : Prop := TP M b n ∧ TK b n s M ∧ s ≤ n ∧ (md_i M 14 = 0 ∧ md_i M 13 = -1) ∧ md_i M 20 = nI lv ∧ lv ≤ 50 ∧ md_i M 17 = nI c ∧ c ≤ s ∧ ∀ i, i < c → (md_a M 18 i = nI (o i) ∧ md_a M 19 i = nI (a i)) ∧ o i < 30 ∧ a i < 2 ^ 30
def EXq (b : Nat → Nat) (n lv c : Nat) (o a : Nat → Nat) (res : pr_T) (N : md_T) : Prop := match res with
  | .inr p => md_i N 14 = 1 ∧ md_i N 13 = nI p
  | .inl x => ∃ c' o' a' m, YS b n x.2.1 x.2.2 c' o' a' N ∧ (∀ i, i < c → o' i = o i ∧ a' i = a i) ∧ CM o' a' c c' m x.1 ∧ m + lv ≤ x.2.2
def CLm (r : Nat → Int32) (o a : Nat → Nat) (cs j : Nat) (c : cl_T) : Prop := r (8 * j) = nI c.1 ∧ c.1 < 5 ∧ ∃ s m e, s ≤ m ∧ m ≤ e ∧ e ≤ cs ∧ r (8 * j + 3) = nI s ∧ r (8 * j + 4) = nI m ∧ r (8 * j + 5) = nI m ∧ r (8 * j + 6) = nI e ∧ ((s = m ∧ c.2.1 = fB) ∨ ∃ k, k ≤ 50 ∧ CM o a s m k c.2.1) ∧ ((m = e ∧ c.2.2 = fun _ => some 1) ∨ ∃ k, k ≤ 50 ∧ CM o a m e k c.2.2)
def RCm (b : Nat → Nat) (n s lv c : Nat) (o a : Nat → Nat) (Cs : List cl_T) (M : md_T) : Prop := YS b n s lv c o a M ∧ Cs.length ≤ 12 ∧ md_i M 15 = nI Cs.length ∧ ∀ (j : Nat) (x : cl_T), Cs[j]? = some x → CLm (md_a M 16) o a c j x
def RCmq (b : Nat → Nat) (n : Nat) (Cs : List cl_T) (res : pk_T) (N : md_T) : Prop := match res with
  | .inr p => md_i N 14 = 1 ∧ md_i N 13 = nI p
  | .inl x => ∃ c' o' a', RCm b n x.2.1 x.2.2 c' o' a' (Cs ++ [x.1]) N
section Cla
variable {b : Nat → Nat} {n s lv op c k d p arg pos q le F cnt hd sm : Nat} {h t g : ms_S} {M N M0 : md_T} {L P Q : pl_T} {o a : Nat → Nat} {tst : Int32} {res : pr_T} {f0 : dn_T} {S : Nat → Bool} {Cs : List cl_T}
theorem ZS_YS (hM : ZS b n s lv L op c o a M) : YS b n s lv c o a M := by
  obtain ⟨h1, h2, h3, h4, h5, h6, h7, h8, h9, g1, g2, g3, g4, g5⟩ := hM
  exact ⟨h1, h2, h3, h4, h5, h6, g1, by omega, g4⟩
theorem YS_ZS (hM : YS b n s lv c o a M) : ZS b n s lv [] 0 c o a (md_ui (md_ui M 23 0) 24 0) := by
  obtain ⟨h1, h2, h3, h4, h5, h6, h7, h8, h9⟩ := hM
  have hn := h1.1
  have e : ∀ k, k ≠ 23 → k ≠ 24 → md_i (md_ui (md_ui M 23 0) 24 0) k = md_i M k := fun k k1 k2 => by rw [md_i_ne k2, md_i_ne k1]
  exact ⟨TP_i (TP_i h1 (by decide)) (by decide), TK_eq h2 (e 9 (by decide) (by decide)) (e 10 (by decide) (by decide)) (e 11 (by decide) (by decide)) rfl, h3, ⟨by rw [e 14 (by decide) (by decide)]; exact h4.1, by rw [e 13 (by decide) (by decide)]; exact h4.2⟩, by rw [e 20 (by decide) (by decide)]; exact h5, h6, md_i_at, by decide, h8, by rw [e 17 (by decide) (by decide)]; exact h7, by rw [md_i_ne (by decide), md_i_at]; rfl, by show c + 0 ≤ 400; omega, h9, trivial⟩
theorem YS_f (hM : YS b n s lv c o a M) (f : md_fr S M N) (hS : ∀ k, 7 ≤ k → k ≤ 20 → k ≠ 15 → k ≠ 16 → S k = false) : YS b n s lv c o a N := by
  obtain ⟨h1, h2, h3, h4, h5, h6, h7, h8, h9⟩ := hM
  have z : ∀ k, 7 ≤ k → k ≤ 20 → k ≠ 15 → k ≠ 16 → md_i N k = md_i M k ∧ md_l N k = md_l M k ∧ (∀ n, md_a N k n = md_a M k n) := fun k k1 k2 k3 k4 => ⟨(f k (hS k k1 k2 k3 k4)).1, (f k (hS k k1 k2 k3 k4)).2.1, (f k (hS k k1 k2 k3 k4)).2.2.1⟩
  exact ⟨TP_eq h1 (z 8 (by decide) (by decide) (by decide) (by decide)).1 (z 7 (by decide) (by decide) (by decide) (by decide)).2.2, TK_eq h2 (z 9 (by decide) (by decide) (by decide) (by decide)).1 (z 10 (by decide) (by decide) (by decide) (by decide)).1 (z 11 (by decide) (by decide) (by decide) (by decide)).1 (z 12 (by decide) (by decide) (by decide) (by decide)).2.1, h3, ⟨by rw [(z 14 (by decide) (by decide) (by decide) (by decide)).1]; exact h4.1, by rw [(z 13 (by decide) (by decide) (by decide) (by decide)).1]; exact h4.2⟩, by rw [(z 20 (by decide) (by decide) (by decide) (by decide)).1]; exact h5, h6, by rw [(z 17 (by decide) (by decide) (by decide) (by decide)).1]; exact h7, h8, fun i hi => by rw [(z 18 (by decide) (by decide) (by decide) (by decide)).2.2, (z 19 (by decide) (by decide) (by decide) (by decide)).2.2]; exact h9 i hi⟩
theorem g16_S : ∀ k, 7 ≤ k → k ≤ 20 → k ≠ 15 → k ≠ 16 → g16 k = false := fun k _ _ _ h => decide_eq_false h
theorem YS_next (hM : YS b n s lv c o a M) (f : md_fr g12 M N) (hK : TK b n (tkx b n s) N) (hlt : s ≤ tkx b n s) : YS b n (tkx b n s) lv c o a N := by
  obtain ⟨h1, h2, h3, h4, h5, h6, h7, h8, h9⟩ := hM
  exact ⟨TP_eq h1 (f 8 rfl).1 (f 7 rfl).2.2.1, hK, (tok_nx h3).1, ⟨by rw [(f 14 rfl).1]; exact h4.1, by rw [(f 13 rfl).1]; exact h4.2⟩, by rw [(f 20 rfl).1]; exact h5, h6, by rw [(f 17 rfl).1]; exact h7, by omega, fun i hi => by rw [(f 18 rfl).2.2.1, (f 19 rfl).2.2.1]; exact h9 i hi⟩
theorem ys_word {k : Nat} {w : List Nat} {x : Int64} (hM : YS b n s lv c o a M) (hk : k < 21) (hw : WL[k]? = some w) (hx : isL x (hr w.reverse)) {K : Int32 → ms_S → Prop} (hy : tkc b n s = 256 + k → K 1 (ms_m h M t)) (hn : ¬ tkc b n s = 256 + k → K 0 (ms_m h M t)) : ms_c1 (ms_Cl (d + 1) 177 [.ref h.length, .long x] (ms_m h M t)) K := by
  refine ms_c1_i (n_isWord hM.2.1 (fun k hk => (hM.1.2.2 k hk).2) hk hw hx) ?_
  show K (ms_bi (decide (tkc b n s = 256 + k))) (ms_m h M t)
  by_cases z : tkc b n s = 256 + k
  · rw [decide_eq_true z]; exact hy z
  · rw [decide_eq_false z]; exact hn z
theorem pile_cut : ∀ L : pl_T, ∃ Q P, L = Q ++ P ∧ (∀ x, x ∈ Q → 1 ≤ bd x.1) ∧ bt P < 1
  | [] => ⟨[], [], rfl, (fun x hx => by cases hx), by decide⟩
  | x :: r => by
    by_cases hx : 1 ≤ bd x.1
    · obtain ⟨Q, P, e, h1, h2⟩ := pile_cut r
      refine ⟨x :: Q, P, by rw [e]; rfl, fun y hy => ?_, h2⟩
      rcases List.mem_cons.mp hy with hy | hy
      · rw [hy]; exact hx
      · exact h1 y hy
    · exact ⟨[], x :: r, rfl, (fun y hy => by cases hy), by show bd x.1 < 1; omega⟩
/-- an expression -/
theorem n_expr (hres : pz b n F k 0 f0 s lv = some res) (hk : (k = 0 ∧ tst = 1) ∨ (k = 5 ∧ tst = 0)) (hY : YS b n s lv c o a M) : ms_H' (d + 7) 195 [.ref h.length, .int tst] (ms_m h M t) (gN gXr h M t (EXq b n lv c o a res)) := by
  refine mx_m (fun a b c => m_X9_readExpression a b ⟨_, ms_m_0⟩ c) gN_l (b_X9_readExpression_0 ?_)
  rw [mm_p23, mm_p24]
  have hZ := YS_ZS hY
  have f0' : md_fr gXr M (md_ui (md_ui M 23 0) 24 0) := mr_i (mr_i mr_0 rfl) rfl
  generalize md_ui (md_ui M 23 0) 24 0 = M1 at hZ f0' ⊢
  have bad : ∀ (N : md_T) (v : Int32) (p : Nat), res = .inr p → md_fr gXr M1 N → MB p N → HDr d h t tst (gN gXr h M t (EXq b n lv c o a res)) v N := by
    intro N v p e f hB
    obtain ⟨h14, h13, c2, L, o2, a2, hP⟩ := hB
    obtain ⟨Q, P, e2, hQ, hb⟩ := pile_cut L
    subst e2
    subst e
    refine b_X9_readExpression_20 (ms_oI_i mm_f14 ?_)
    rw [h14]
    refine ms_no (by decide) (my_n0 (n_settle (le := 1) (d := d + 4) (by decide) (by decide) hP hQ hb) (fun N2 f2 _ => ⟨N2, mr_t f0' (mr_t f (gX_st f2)), rfl, rfl, by rw [(f2 14 rfl).1]; exact h14, by rw [(f2 13 rfl).1]; exact h13⟩))
  have over : ∀ (N : md_T) (Q : pl_T) (c' : Nat) (o' a' : Nat → Nat) (f : dn_T) (s' lv' m : Nat), res = .inl (f, s', lv') → md_fr gXr M1 N → ZS b n s' lv' (Q ++ []) 0 c' o' a' N → (∀ x, x ∈ Q → 1 ≤ bd x.1) → (∀ i, i < c → o' i = o i ∧ a' i = a i) → PQ c f Q o' a' c' m → m + lv ≤ lv' → HDr d h t tst (gN gXr h M t (EXq b n lv c o a res)) 4 N := by
    intro N Q c' o' a' f s' lv' m e f1 hZ2 hQ hag hPQ hm
    subst e
    refine b_X9_readExpression_20 (ms_oI_i mm_f14 (ms_yes hZ2.bad (ms_yes rfl (ms_settle (le := 1) (d := d + 4) (by decide) (by decide) hZ2 hQ (by decide) (fun N2 f2 hZ3 => ?_)))))
    exact ⟨N2, mr_t f0' (mr_t f1 f2), rfl, rfl, _, _, _, m, ZS_YS hZ3, fun i hi => ⟨(hPQ.2 i hi).1.trans (hag i hi).1, (hPQ.2 i hi).2.trans (hag i hi).2⟩, hPQ.1, hm⟩
  have hA := KAm_all (b := b) (n := n) (d := d) (h := h) (t := t) (tst := tst) (QQ := gN gXr h M t (EXq b n lv c o a res)) F
  rcases hk with ⟨e1, e2⟩ | ⟨e1, e2⟩
  · subst e1
    subst e2
    refine ms_no (by decide) (hA.1.2.2.2.2.2.2 M1 s lv [] 0 c o a res f0 0 hres hZ ⟨rfl, by decide, by decide, fun _ => by decide⟩ bad (fun N Q c' o' a' f s' lv' m e f1 hZ2 hQ hag hPQ hm => ?_))
    have e' := e
    subst e'
    have htl : ¬ tkc b n s' = 275 ∧ ¬ tkc b n s' = 274 := pz_tl _ _ _ _ _ _ _ hres
    refine hd_2 hZ2 (n_btO (d := d + 1) hZ2 htl.1 htl.2 (ib_app Q hQ)) (fun N2 v2 f2 hR => ?_)
    obtain ⟨ev, hZ3⟩ := hR
    subst ev
    exact over N2 Q c' o' a' f s' lv' m rfl (mr_t f1 f2) hZ3 hQ hag hPQ hm
  · subst e1
    subst e2
    refine ms_yes rfl (hA.1.2.2.1 M1 s lv [] 0 c o a res f0 1 hres hZ ⟨Or.inl rfl, by decide⟩ bad (fun N Q c' o' a' f s' lv' m e f1 hZ2 hQ hag hPQ hm => ?_))
    have e' := e
    subst e'
    have htl : nar (tkc b n s') := pz_tl _ _ _ _ _ _ _ hres
    have hQ1 : ∀ x, x ∈ Q → 1 ≤ bd x.1 := fun x hx => by have := hQ x hx; omega
    refine hd_3 hZ2 (n_bsO (d := d + 1) hZ2 htl (ib_app Q hQ1)) (fun N2 v2 f2 hR => ?_)
    obtain ⟨ev, hZ3⟩ := hR
    subst ev
    exact over N2 Q c' o' a' f s' lv' m rfl (mr_t f1 f2) hZ3 hQ1 hag hPQ hm
theorem n_headAt (hM : YS b n s lv c o a M) : ms_Cl (d + 2) 196 [.ref h.length] (ms_m h M t) (some (.int (if 268 ≤ tkc b n s ∧ tkc b n s < 273 then nI (tkc b n s - 268) else -1))) (ms_m h M t) := by
  refine m_X9_headAt (Nat.le_refl _) (Nat.le_refl _) ⟨_, ms_m_0⟩ (b_X9_headAt_0 (Q := ms_lf _ _) ?_)
  have R : (tkc b n s = 268 ∨ tkc b n s = 269) → ms_c1 (ms_Cl (d + 1) 177 [.ref h.length, .long 635184] (ms_m h M t)) fun r12 g11 => if r12 = 0 then (ms_lf (some (.int (if 268 ≤ tkc b n s ∧ tkc b n s < 273 then nI (tkc b n s - 268) else -1))) (ms_m h M t) (some (.int 1)) g11) else (ms_lf (some (.int (if 268 ≤ tkc b n s ∧ tkc b n s < 273 then nI (tkc b n s - 268) else -1))) (ms_m h M t) (some (.int 0)) g11) := by
    intro hz
    rw [if_pos (show 268 ≤ tkc b n s ∧ tkc b n s < 273 by omega)]
    refine ys_word (k := 12) hM (by decide) rfl (by unfold isL; decide) (fun z => ms_no (by decide) ⟨by rw [z]; rfl, rfl⟩) (fun z0 => ms_yes rfl ?_)
    refine ⟨?_, rfl⟩
    rw [show tkc b n s = 269 by omega]
    rfl
  refine ys_word (k := 12) hM (by decide) rfl (by unfold isL; decide) (fun z => ms_no (by decide) (R (by omega))) (fun z0 => ms_yes rfl ?_)
  refine ys_word (k := 13) hM (by decide) rfl (by unfold isL; decide) (fun z => ms_no (by decide) (R (by omega))) (fun z1 => ms_yes rfl ?_)
  refine ys_word (k := 14) hM (by decide) rfl (by unfold isL; decide) (fun z => ms_no (by decide) ⟨by rw [z]; rfl, rfl⟩) (fun z2 => ms_yes rfl ?_)
  refine ys_word (k := 15) hM (by decide) rfl (by unfold isL; decide) (fun z => ms_no (by decide) ⟨by rw [z]; rfl, rfl⟩) (fun z3 => ms_yes rfl ?_)
  refine ys_word (k := 16) hM (by decide) rfl (by unfold isL; decide) (fun z => ms_no (by decide) ⟨by rw [z]; rfl, rfl⟩) (fun z4 => ms_yes rfl ?_)
  refine ⟨?_, rfl⟩
  rw [if_neg (by omega)]
/-- behind a clause's sum -/
def clT (D : Nat) (h : ms_S) (v2 : Int32) (QQ : Option Value → ms_S → Prop) (g : ms_S) : Prop := ms_oR (ms_fldR g h.length 9 16) fun x8 => ms_oI (ms_fldI g h.length 9 17) fun x9 => ms_wI g x8 (v2 + 4) x9 fun g10 => ms_oR (ms_fldR g10 h.length 9 16) fun x11 => ms_oI (ms_fldI g10 h.length 9 17) fun x12 => ms_wI g10 x11 (v2 + 5) x12 fun g13 => ms_oI (ms_fldI g13 h.length 9 14) fun x14 => if x14 = 0 then (ms_c1 (ms_Cl D 177 [.ref h.length, .long 294] g13) fun r16 g15 => if r16 = 0 then (ms_oR (ms_fldR g15 h.length 9 16) fun x17 => ms_oI (ms_fldI g15 h.length 9 17) fun x18 => ms_wI g15 x17 (v2 + 6) x18 fun g19 => QQ none g19) else (ms_c0 (ms_Cl D 176 [.ref h.length] g15) fun g20 => ms_c0 (ms_Cl D 195 [.ref h.length, .int 1] g20) fun g21 => ms_oR (ms_fldR g21 h.length 9 16) fun x22 => ms_oI (ms_fldI g21 h.length 9 17) fun x23 => ms_wI g21 x22 (v2 + 6) x23 fun g24 => QQ none g24)) else (ms_oR (ms_fldR g13 h.length 9 16) fun x25 => ms_oI (ms_fldI g13 h.length 9 17) fun x26 => ms_wI g13 x25 (v2 + 6) x26 fun g27 => QQ none g27)
theorem n_w16 {j : Nat} {K : ms_S → Prop} (hj : 8 * cnt + j < 96) (hj2 : j < 8) (hK : K (ms_m h (md_ua M 16 (8 * cnt + j) (md_i M 17)) t)) : ms_oR (ms_fldR (ms_m h M t) h.length 9 16) fun x8 => ms_oI (ms_fldI (ms_m h M t) h.length 9 17) fun x9 => ms_wI (ms_m h M t) x8 (nI (8 * cnt) + nI j) x9 K := by
  refine ms_oR_i mm_f16 (ms_oI_i mm_f17 ?_)
  rw [ms_p1, mm_w16]
  refine ⟨ms_in hj (by decide), ?_⟩
  rw [ms_nc (by omega)]
  exact hK
theorem n_tailB {QQ : Option Value → ms_S → Prop} (hc : cnt < 12) (h14 : md_i M 14 = 1) (hQ : ∀ N, md_fr g16 M N → QQ none (ms_m h N t)) : clT (d + 7) h (nI (8 * cnt)) QQ (ms_m h M t) := by
  unfold clT
  refine n_w16 (j := 4) (by omega) (by decide) ?_
  refine n_w16 (j := 5) (by omega) (by decide) (ms_oI_i mm_f14 ?_)
  rw [show ∀ (A : md_T) (x y : Nat) (u v : Int32), md_i (md_ua (md_ua A 16 x u) 16 y v) 14 = md_i A 14 from fun _ _ _ _ _ => rfl, h14]
  refine ms_no (by decide) ?_
  refine n_w16 (j := 6) (by omega) (by decide) (hQ _ (mr_a (mr_a (mr_a mr_0 rfl) rfl) rfl))
theorem CLm_up {r r' : Nat → Int32} {o' a' : Nat → Nat} {cs cs' j : Nat} {x : cl_T} (hx : CLm r o a cs j x) (h1 : ∀ m, m < 8 * j + 8 → r' m = r m) (h2 : cs ≤ cs') (h3 : ∀ i, i < cs → o' i = o i ∧ a' i = a i) : CLm r' o' a' cs' j x := by
  obtain ⟨q1, q2, s, m, e, q3, q4, q5, q6, q7, q8, q9, q10, q11⟩ := hx
  refine ⟨by rw [h1 _ (by omega)]; exact q1, q2, s, m, e, q3, q4, by omega, by rw [h1 _ (by omega)]; exact q6, by rw [h1 _ (by omega)]; exact q7, by rw [h1 _ (by omega)]; exact q8, by rw [h1 _ (by omega)]; exact q9, ?_, ?_⟩
  · rcases q10 with q | ⟨k, hk, q⟩
    · exact Or.inl q
    · exact Or.inr ⟨k, hk, q.loc (fun i _ i2 => h3 i (by omega))⟩
  · rcases q11 with q | ⟨k, hk, q⟩
    · exact Or.inl q
    · exact Or.inr ⟨k, hk, q.loc (fun i _ i2 => h3 i (by omega))⟩
theorem RCm_add {c0 : cl_T} {m e : Nat} (hY : YS b n s lv c o a N) (hC : Cs.length < 12) (h15 : md_i N 15 = nI (Cs.length + 1)) (hold : ∀ (j : Nat) (x : cl_T), Cs[j]? = some x → CLm (md_a N 16) o a c j x) (hnew : CLm (md_a N 16) o a c Cs.length c0) : RCm b n s lv c o a (Cs ++ [c0]) N := by
  refine ⟨hY, by rw [List.length_append]; exact hC, by rw [List.length_append]; exact h15, fun j x hj => ?_⟩
  by_cases hjl : j < Cs.length
  · rw [List.getElem?_append_left hjl] at hj
    exact hold j x hj
  · have hi2 : j = Cs.length := by
      have := (List.getElem?_eq_some_iff.mp hj).1
      rw [List.length_append] at this
      have : j < Cs.length + 1 := this
      omega
    subst hi2
    rw [List.getElem?_append_right (Nat.le_refl _), Nat.sub_self] at hj
    have hc : c0 = x := Option.some.inj hj
    subst hc
    exact hnew
/-- the rest of a clause, when its sum stands -/
theorem n_tailG {QQ : Option Value → ms_S → Prop} {res : pk_T} (hC : Cs.length < 12) (hY : YS b n s lv c o a M) (h15 : md_i M 15 = nI (Cs.length + 1)) (hold : ∀ (j : Nat) (x : cl_T), Cs[j]? = some x → CLm (md_a M 16) o a c j x) (hhd : md_a M 16 (8 * Cs.length) = nI hd) (hh5 : hd < 5) (hsm : md_a M 16 (8 * Cs.length + 3) = nI sm) (hsc : sm ≤ c) (hf : (sm = c ∧ f0 = fB) ∨ ∃ k, k ≤ 50 ∧ CM o a sm c k f0) (hres : pkT b n F hd f0 s lv = some res) (hQ : ∀ N, md_fr gCl M N → RCmq b n Cs res N → QQ none (ms_m h N t)) : clT (d + 7) h (nI (8 * Cs.length)) QQ (ms_m h M t) := by
  unfold clT
  refine n_w16 (j := 4) (by omega) (by decide) ?_
  refine n_w16 (j := 5) (by omega) (by decide) (ms_oI_i mm_f14 ?_)
  have h17 := hY.2.2.2.2.2.2.1
  rw [show md_i (md_ua M 16 (8 * Cs.length + 4) (md_i M 17)) 17 = md_i M 17 from rfl, h17]
  have f1 : md_fr g16 M (md_ua (md_ua M 16 (8 * Cs.length + 4) (nI c)) 16 (8 * Cs.length + 5) (nI c)) := mr_a (mr_a mr_0 rfl) rfl
  have hY1 := YS_f hY f1 g16_S
  have a1 : ∀ m, md_a (md_ua (md_ua M 16 (8 * Cs.length + 4) (nI c)) 16 (8 * Cs.length + 5) (nI c)) 16 m = if m = 8 * Cs.length + 5 then nI c else if m = 8 * Cs.length + 4 then nI c else md_a M 16 m := fun m => by
    rw [md_a_ua, md_a_ua]
    by_cases z1 : m = 8 * Cs.length + 5
    · rw [if_pos (show 16 = 16 ∧ m = 8 * Cs.length + 5 from ⟨rfl, z1⟩), if_pos z1]
    · rw [if_neg (show ¬ (16 = 16 ∧ m = 8 * Cs.length + 5) from fun y => z1 y.2), if_neg z1]
      by_cases z2 : m = 8 * Cs.length + 4
      · rw [if_pos (show 16 = 16 ∧ m = 8 * Cs.length + 4 from ⟨rfl, z2⟩), if_pos z2]
      · rw [if_neg (show ¬ (16 = 16 ∧ m = 8 * Cs.length + 4) from fun y => z2 y.2), if_neg z2]
  have i15 : md_i (md_ua (md_ua M 16 (8 * Cs.length + 4) (nI c)) 16 (8 * Cs.length + 5) (nI c)) 15 = nI (Cs.length + 1) := h15
  generalize md_ua (md_ua M 16 (8 * Cs.length + 4) (nI c)) 16 (8 * Cs.length + 5) (nI c) = M1 at f1 hY1 a1 i15 ⊢
  have fC : md_fr gCl M M1 := mr_s f1 (fun k hk => decide_eq_false (fun z => of_decide_eq_false hk (by omega)))
  rw [hY1.2.2.2.1.1]
  refine ms_yes rfl ?_
  unfold pkT at hres
  refine ys_word (k := 17) (d := d + 6) hY1 (by decide) rfl (by unfold isL; decide) (fun z => ms_no (by decide) ?_) (fun z => ms_yes rfl ?_)
  · have z : tkc b n s = 273 := z
    rw [if_pos z] at hres
    have gt := tok_gt hY1.2.2.1 (show tkc b n s ≠ 301 by omega)
    refine my_n0 (n_next (d := d + 5) hY1.1 (TK_at hY1.2.1).2 (tok_nx hY1.2.2.1).1) (fun N2 f2 hK => ?_)
    have hY2 := YS_next hY1 f2 hK (by show s ≤ tkx b n s; omega)
    have hrr : ∃ r1, pz b n F 0 0 fB (tkx b n s) lv = some r1 := by
      cases hz : pz b n F 0 0 fB (tkx b n s) lv with
      | none => rw [hz] at hres; cases hres
      | some r1 => exact ⟨r1, rfl⟩
    obtain ⟨r1, hr1⟩ := hrr
    rw [hr1] at hres
    refine my_n0 (n_expr (d := d) (tst := 1) hr1 (Or.inl ⟨rfl, rfl⟩) hY2) (fun N3 f3 hE => ?_)
    have fC3 : md_fr gCl M N3 := mr_t fC (mr_t (mr_s f2 (fun k hk => decide_eq_false (fun z => of_decide_eq_false hk (by omega)))) (mr_s f3 (fun k hk => decide_eq_false (fun z => of_decide_eq_false hk (by omega)))))
    refine n_w16 (j := 6) (by omega) (by decide) (hQ _ (mr_a fC3 rfl) ?_)
    cases r1 with
    | inr p =>
      have e2 : res = .inr p := (Option.some.inj hres).symm
      subst e2
      exact hE
    | inl x =>
      have e2 : res = .inl ((hd, f0, x.1), x.2.1, x.2.2) := (Option.some.inj hres).symm
      subst e2
      obtain ⟨c', o', a', m, hY3, hag, hCM, hm⟩ := hE
      have h50 := hY3.2.2.2.2.2.1
      have hcc := hCM.1
      have e17 := hY3.2.2.2.2.2.2.1
      have e16 : ∀ m, md_a N3 16 m = md_a M1 16 m := fun m => ((f3 16 rfl).2.2.1 m).trans ((f2 16 rfl).2.2.1 m)
      have e15 : md_i N3 15 = nI (Cs.length + 1) := ((f3 15 rfl).1.trans (f2 15 rfl).1).trans i15
      rw [e17]
      have hY4 := YS_f hY3 (show md_fr g16 N3 (md_ua N3 16 (8 * Cs.length + 6) (nI c')) from mr_a mr_0 rfl) g16_S
      have a4 : ∀ m, md_a (md_ua N3 16 (8 * Cs.length + 6) (nI c')) 16 m = if m = 8 * Cs.length + 6 then nI c' else if m = 8 * Cs.length + 5 then nI c else if m = 8 * Cs.length + 4 then nI c else md_a M 16 m := fun m => by
        rw [md_a_ua]
        by_cases z1 : m = 8 * Cs.length + 6
        · rw [if_pos (show 16 = 16 ∧ m = 8 * Cs.length + 6 from ⟨rfl, z1⟩), if_pos z1]
        · rw [if_neg (show ¬ (16 = 16 ∧ m = 8 * Cs.length + 6) from fun y => z1 y.2), if_neg z1, e16, a1]
      refine ⟨c', o', a', RCm_add (m := 0) (e := 0) hY4 hC e15 (fun j y hj => ?_) ?_⟩
      · have hjl := (List.getElem?_eq_some_iff.mp hj).1
        refine CLm_up (hold j y hj) (fun m hm => ?_) (by omega) hag
        rw [a4, if_neg (by omega), if_neg (by omega), if_neg (by omega)]
      · refine ⟨by rw [a4, if_neg (by omega), if_neg (by omega), if_neg (by omega)]; exact hhd, hh5, sm, c, c', hsc, by omega, Nat.le_refl _, by rw [a4, if_neg (by omega), if_neg (by omega), if_neg (by omega)]; exact hsm, by rw [a4, if_neg (by omega), if_neg (by omega), if_pos rfl], by rw [a4, if_neg (by omega), if_pos rfl], by rw [a4, if_pos rfl], ?_, Or.inr ⟨m, by omega, hCM⟩⟩
        rcases hf with q | ⟨k, hk, q⟩
        · exact Or.inl q
        · exact Or.inr ⟨k, hk, q.loc (fun i _ i2 => hag i i2)⟩
  · have z : ¬ tkc b n s = 273 := z
    rw [if_neg z] at hres
    have e2 := Option.some.inj hres
    subst e2
    refine n_w16 (j := 6) (by omega) (by decide) (hQ _ (mr_a fC rfl) ?_)
    have e17 := hY1.2.2.2.2.2.2.1
    rw [e17]
    have hY4 := YS_f hY1 (show md_fr g16 M1 (md_ua M1 16 (8 * Cs.length + 6) (nI c)) from mr_a mr_0 rfl) g16_S
    have a4 : ∀ m, md_a (md_ua M1 16 (8 * Cs.length + 6) (nI c)) 16 m = if m = 8 * Cs.length + 6 then nI c else if m = 8 * Cs.length + 5 then nI c else if m = 8 * Cs.length + 4 then nI c else md_a M 16 m := fun m => by
      rw [md_a_ua]
      by_cases z1 : m = 8 * Cs.length + 6
      · rw [if_pos (show 16 = 16 ∧ m = 8 * Cs.length + 6 from ⟨rfl, z1⟩), if_pos z1]
      · rw [if_neg (show ¬ (16 = 16 ∧ m = 8 * Cs.length + 6) from fun y => z1 y.2), if_neg z1, a1]
    refine ⟨c, o, a, RCm_add (m := 0) (e := 0) hY4 hC i15 (fun j y hj => ?_) ?_⟩
    · have hjl := (List.getElem?_eq_some_iff.mp hj).1
      refine CLm_up (hold j y hj) (fun m hm => ?_) (Nat.le_refl _) (fun _ _ => ⟨rfl, rfl⟩)
      rw [a4, if_neg (by omega), if_neg (by omega), if_neg (by omega)]
    · exact ⟨by rw [a4, if_neg (by omega), if_neg (by omega), if_neg (by omega)]; exact hhd, hh5, sm, c, c, hsc, Nat.le_refl _, Nat.le_refl _, by rw [a4, if_neg (by omega), if_neg (by omega), if_neg (by omega)]; exact hsm, by rw [a4, if_neg (by omega), if_neg (by omega), if_pos rfl], by rw [a4, if_neg (by omega), if_pos rfl], by rw [a4, if_pos rfl], hf, Or.inl ⟨rfl, rfl⟩⟩
end Cla
