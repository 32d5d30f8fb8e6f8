/-! THE CLASS'S Reader: readLeaf; written by wip/whole/mdl.py from zl_lf.txt -/
/-- what a reading method leaves -/
def RDq (b : Nat → Nat) (n sl cs lv : Nat) (w : Nat → Nat) (X : cx_T) (t : ms_S) (res : pr_T) (r : Option Value) (g' : ms_S) : Prop := match res with
  | .inr p => ∃ Y, kp4 X Y ∧ g' = ms_x Y t ∧ r = some (.int 0) ∧ TC Y b n ∧ cx_i Y 3 6 = nI p
  | .inl a => ∃ Y w' cs' m, kp4 X Y ∧ g' = ms_x Y t ∧ r = some (.int 1) ∧ RS b n a.2.1 cs' a.2.2 w' Y ∧ a.2.1 ≤ n ∧ (∀ i, i < cs → w' i = w i) ∧ cs' + sl ≤ 2 * a.2.1 ∧ m + lv ≤ a.2.2 ∧ a.2.2 ≤ 50 ∧ CW w' cs cs' m a.1
section Lf
variable {b w : Nat → Nat} {n s e f k c d p cs lv sl : Nat} {X Y Z : cx_T} {t g : ms_S} {res : pr_T}
theorem RDq_l : ∀ r g', RDq b n sl cs lv w X t res r g' → (ms_x X t).length ≤ g'.length ∧ ms_tot (ms_x X t) ≤ ms_tot g' := by
  intro r g' h
  cases res with
  | inr p =>
    obtain ⟨Y, _, e, _⟩ := h
    rw [e]
    exact ⟨ms_x_l, ms_x_t⟩
  | inl a =>
    obtain ⟨Y, w', cs', m, _, e, _⟩ := h
    rw [e]
    exact ⟨ms_x_l, ms_x_t⟩
theorem mk_n0 {K : ms_S → Prop} {y : Nat} {as : List Value} {P : cx_T → Prop} (hh : ms_H' d y as (ms_x X t) (fK X t P)) (hk : ∀ Y, kp3 X Y → P Y → K (ms_x Y t)) : ms_c0 (ms_Cl d y as (ms_x X t)) K := by
  obtain ⟨r, g', ⟨Y, hf, e1, e2, hp⟩, hc⟩ := hh
  rw [e1, e2] at hc
  exact ms_c0_i hc (hk Y hf hp)
/-- too many leaves -/
theorem k_leafN (h : RS b n s cs lv w X) (hl : 50 ≤ lv) (hl2 : lv < 2 ^ 31) : ms_H' (d + 7) 82 [.ref 3] (ms_x X t) (RDq b n sl cs lv w X t (.inr (tkp b n s))) := by
  refine mx_m (fun a b c => m_X5_readLeaf a b ⟨_, xo_3⟩ c) RDq_l (b_X5_readLeaf_0 (ms_oI_i xf_3_5 ?_))
  rw [h.2.2.2.1]
  exact ms_no (fun z => by rw [show (50 : Int32) = nI 50 from rfl, ms_nlt (by omega) (by omega)] at z; omega) ⟨(by first | exact Or.inr rfl | exact Or.inl rfl | exact Or.inl trivial | exact Or.inr trivial | trivial), X, kp4_0, rfl, rfl, h.1, h.2.1.1⟩
theorem RS_lv {v : Nat} (h : RS b n s cs lv w X) : RS b n s cs v w (cx_ui X 3 5 (nI v)) := by
  obtain ⟨h1, ⟨q1, q2, q3, q4⟩, h5, h6, h7⟩ := h
  exact ⟨TC_i h1, ⟨by rw [cx_i_ui (by decide)]; exact q1, by rw [cx_i_ui (by decide)]; exact q2, by rw [cx_i_ui (by decide)]; exact q3, fun z => by rw [cx_i_ui (by decide)]; exact q4 z⟩, by rw [cx_i_ui (by decide)]; exact h5, cx_i_self, h7⟩
/-- a word -/
theorem k_leafW (hW : HW) (h : RS b n s cs lv w X) (hs : s ≤ n) (hcs : cs + sl ≤ 2 * s) (hl : lv < 50) (h1 : 256 ≤ tkc b n s) (h2 : tkc b n s < 268) : ms_H' (d + 7) 82 [.ref 3] (ms_x X t) (RDq b n sl cs lv w X t (.inl (fun env => some (env (tkc b n s - 256)).toInt64, tkx b n s, lv + 1))) := by
  have hn := h.1.1
  have gt := tok_gt hs (show tkc b n s ≠ 301 by omega)
  refine mx_m (fun a b c => m_X5_readLeaf a b ⟨_, xo_3⟩ c) RDq_l (b_X5_readLeaf_0 (ms_oI_i xf_3_5 ?_))
  rw [h.2.2.2.1]
  refine ms_yes (by rw [show (50 : Int32) = nI 50 from rfl, ms_nlt (by omega) (by omega)]; exact hl) (ms_oI_i xf_3_5 ?_)
  rw [h.2.2.2.1, show nI lv + 1 = nI (lv + 1) from ms_p1 1, xp_3_5]
  have h5 : RS b n s cs (lv + 1) w (cx_ui X 3 5 (nI (lv + 1))) := RS_lv h
  have k5 : kp4 X (cx_ui X 3 5 (nI (lv + 1))) := ⟨fr_i fr_0 rfl, by rw [cx_i_ui (by decide)]⟩
  generalize cx_ui X 3 5 (nI (lv + 1)) = X1 at h5 k5 ⊢
  refine ms_oI_i xf_3_8 ?_
  rw [h5.2.1.2.2.1]
  refine ms_c0_i (k_emit (d := d + 5) h5.2.2.1 (by omega)) ?_
  have h6 := RS_e (v := tkc b n s) h5 (by omega)
  have k6 : kp4 X1 (cx_ui (cx_ua X1 4 cs (nI (tkc b n s))) 3 3 (nI (cs + 1))) := em_k
  generalize cx_ui (cx_ua X1 4 cs (nI (tkc b n s))) 3 3 (nI (cs + 1)) = X2 at h6 k6 ⊢
  refine ms_oI_i xf_3_8 ?_
  rw [h6.2.1.2.2.1]
  refine ms_no (fun z => by rw [show (300 : Int32) = nI 300 from rfl, ms_nI_eq (by omega) (by omega)] at z; omega) ?_
  refine mk_n0 (k_adv (d := d) hW h6 hs) (fun Y hk hR => ⟨(by first | exact Or.inr rfl | exact Or.inl rfl | exact Or.inl trivial | exact Or.inr trivial | trivial), Y, _, _, 1, kp4_t k5 (kp4_t k6 (kp4_3 hk)), rfl, rfl, hR, gt.2, fun i hi => if_neg (by omega), ?_, by show 1 + lv ≤ lv + 1; omega, by show lv + 1 ≤ 50; omega, ?_⟩)
  · show cs + 1 + sl ≤ 2 * tkx b n s
    omega
  · exact CW_word (i := tkc b n s - 256) (by show (if cs = cs then tkc b n s else w cs) = _; rw [if_pos rfl]; omega) (by omega)
/-- a number -/
theorem k_leafNum (hW : HW) (h : RS b n s cs lv w X) (hs : s ≤ n) (hcs : cs + sl ≤ 2 * s) (hl : lv < 50) (h1 : tkc b n s = 300) (h2 : tkn b n s ≤ 100000) : ms_H' (d + 7) 82 [.ref 3] (ms_x X t) (RDq b n sl cs lv w X t (.inl (fun _ => some (nI (tkn b n s)).toInt64, tkx b n s, lv + 1))) := by
  have hn := h.1.1
  have gt := tok_gt hs (show tkc b n s ≠ 301 by omega)
  refine mx_m (fun a b c => m_X5_readLeaf a b ⟨_, xo_3⟩ c) RDq_l (b_X5_readLeaf_0 (ms_oI_i xf_3_5 ?_))
  rw [h.2.2.2.1]
  refine ms_yes (by rw [show (50 : Int32) = nI 50 from rfl, ms_nlt (by omega) (by omega)]; exact hl) (ms_oI_i xf_3_5 ?_)
  rw [h.2.2.2.1, show nI lv + 1 = nI (lv + 1) from ms_p1 1, xp_3_5]
  have h5 : RS b n s cs (lv + 1) w (cx_ui X 3 5 (nI (lv + 1))) := RS_lv h
  have k5 : kp4 X (cx_ui X 3 5 (nI (lv + 1))) := ⟨fr_i fr_0 rfl, by rw [cx_i_ui (by decide)]⟩
  generalize cx_ui X 3 5 (nI (lv + 1)) = X1 at h5 k5 ⊢
  refine ms_oI_i xf_3_8 ?_
  rw [h5.2.1.2.2.1]
  refine ms_c0_i (k_emit (d := d + 5) h5.2.2.1 (by omega)) ?_
  have h6 := RS_e (v := tkc b n s) h5 (by omega)
  have k6 : kp4 X1 (cx_ui (cx_ua X1 4 cs (nI (tkc b n s))) 3 3 (nI (cs + 1))) := em_k
  generalize cx_ui (cx_ua X1 4 cs (nI (tkc b n s))) 3 3 (nI (cs + 1)) = X2 at h6 k6 ⊢
  refine ms_oI_i xf_3_8 ?_
  rw [h6.2.1.2.2.1]
  refine ms_yes (by rw [h1]; rfl) (ms_oI_i xf_3_9 ?_)
  rw [h6.2.1.2.2.2 h1]
  refine ms_c0_i (k_emit (d := d + 5) h6.2.2.1 (by omega)) ?_
  have h7 := RS_e (v := tkn b n s) h6 (by omega)
  have k7 : kp4 X2 (cx_ui (cx_ua X2 4 (cs + 1) (nI (tkn b n s))) 3 3 (nI (cs + 1 + 1))) := em_k
  generalize cx_ui (cx_ua X2 4 (cs + 1) (nI (tkn b n s))) 3 3 (nI (cs + 1 + 1)) = X3 at h7 k7 ⊢
  refine mk_n0 (k_adv (d := d) hW h7 hs) (fun Y hk hR => ⟨(by first | exact Or.inr rfl | exact Or.inl rfl | exact Or.inl trivial | exact Or.inr trivial | trivial), Y, _, _, 1, kp4_t k5 (kp4_t k6 (kp4_t k7 (kp4_3 hk))), rfl, rfl, hR, gt.2, fun i hi => ?_, ?_, by show 1 + lv ≤ lv + 1; omega, by show lv + 1 ≤ 50; omega, ?_⟩)
  · show (if i = cs + 1 then tkn b n s else if i = cs then tkc b n s else w i) = w i
    rw [if_neg (by omega), if_neg (by omega)]
  · show cs + 1 + 1 + sl ≤ 2 * tkx b n s
    omega
  · have := CW_num (w := fun i => if i = cs + 1 then tkn b n s else if i = cs then tkc b n s else w i) (s := cs) (by show (if cs = cs + 1 then tkn b n s else if cs = cs then tkc b n s else w cs) = 300; rw [if_neg (by omega), if_pos rfl, h1])
    rw [if_pos rfl] at this
    exact this
end Lf
