/-! THE CLASS'S Reader: emit, aim, readLeaf; written by wip/whole/mdl.py from zk_rl.txt -/
def f34 (c : Nat) : Bool := decide (c = 3 ∨ c = 4)
def kp4 (X Y : cx_T) : Prop := cx_fr f34 X Y ∧ cx_i Y 3 4 = cx_i X 3 4
/-- the Reader at work: token from s on, so much code, so many leaves -/
def RS (b : Nat → Nat) (n s cs lv : Nat) (w : Nat → Nat) (X : cx_T) : Prop := TC X b n ∧ TQ b n s X ∧ cx_i X 3 3 = nI cs ∧ cx_i X 3 5 = nI lv ∧ ∀ i, i < cs → cx_a X 4 i = nI (w i) ∧ w i < 2 ^ 30
section Rl
variable {b w : Nat → Nat} {n s e f k c d p cs lv : Nat} {X Y Z : cx_T} {t g : ms_S}
theorem kp4_0 : kp4 X X := ⟨fr_0, rfl⟩
theorem kp4_t (h : kp4 X Y) (k : kp4 Y Z) : kp4 X Z := ⟨fr_t h.1 k.1, k.2.trans h.2⟩
theorem kp4_3 (h : kp3 X Y) : kp4 X Y := ⟨fr_s h.1 (fun c hc => decide_eq_false (fun z => of_decide_eq_false hc (Or.inl z))), h.2 4 (by decide)⟩
theorem k_emit {v : Int32} (h3 : cx_i X 3 3 = nI cs) (hcs : cs < 800) : ms_Cl (d + 1) 85 [.ref 3, .int v] (ms_x X t) none (ms_x (cx_ui (cx_ua X 4 cs v) 3 3 (nI (cs + 1))) t) := by
  refine m_X5_emit ms_x_l ms_x_t ⟨_, xo_3⟩ (b_X5_emit_0 (Q := ms_lf _ _) (ms_oI_i xf_3_3 ?_))
  have c4 : cA 4 800 := ⟨fun _ => rfl, fun _ _ _ => rfl, by decide⟩
  rw [h3]
  simp only [xf_3_1, ms_oR_e, cA_l c4]
  refine ms_no (fun z => by rw [ms_nle (by omega) (by omega)] at z; omega) (ms_oI_i xf_3_3 ?_)
  rw [h3, cA_w c4]
  refine ⟨ms_in hcs (by decide), ?_⟩
  rw [ms_nc (by omega)]
  refine ms_oI_i xf_3_3 ?_
  rw [show cx_i (cx_ua X 4 cs v) 3 3 = cx_i X 3 3 from rfl, h3, xp_3_3, show nI cs + 1 = nI (cs + 1) from ms_p1 1]
  exact ⟨rfl, rfl⟩
theorem em_i {v : Int32} {q : Nat} (hq : q ≠ 3) : cx_i (cx_ui (cx_ua X 4 cs v) 3 3 (nI (cs + 1))) 3 q = cx_i X 3 q := by
  rw [cx_i_ui (fun z => hq z.2)]
  rfl
theorem em_k {v : Int32} : kp4 X (cx_ui (cx_ua X 4 cs v) 3 3 (nI (cs + 1))) := ⟨fr_i (fr_a fr_0 rfl) rfl, em_i (by decide)⟩
/-- one sign more in the code -/
theorem RS_e {v : Nat} (h : RS b n s cs lv w X) (hv : v < 2 ^ 30) : RS b n s (cs + 1) lv (fun i => if i = cs then v else w i) (cx_ui (cx_ua X 4 cs (nI v)) 3 3 (nI (cs + 1))) := by
  obtain ⟨⟨h1, h2, h3⟩, ⟨q1, q2, q3, q4⟩, h5, h6, h7⟩ := h
  refine ⟨⟨h1, by rw [cx_i_ui (by decide)]; exact h2, fun k hk => by
    show cx_a (cx_ua X 4 cs (nI v)) 2 k = _ ∧ _
    rw [cx_a_ua, if_neg (by omega)]
    exact h3 k hk⟩, ⟨by rw [em_i (by decide)]; exact q1, by rw [em_i (by decide)]; exact q2, by rw [em_i (by decide)]; exact q3, fun z => by rw [em_i (by decide)]; exact q4 z⟩, cx_i_self, by rw [em_i (by decide)]; exact h6, fun i hi => ?_⟩
  show cx_a (cx_ua X 4 cs (nI v)) 4 i = nI (if i = cs then v else w i) ∧ (if i = cs then v else w i) < 2 ^ 30
  rw [cx_a_ua]
  by_cases hic : i = cs
  · rw [if_pos ⟨rfl, hic⟩, if_pos hic]
    exact ⟨rfl, hv⟩
  · rw [if_neg (fun z => hic z.2), if_neg hic]
    exact h7 i (by omega)
/-- the next token -/
theorem k_adv (hW : HW) (h : RS b n s cs lv w X) (hs : s ≤ n) : ms_H' (d + 6) 86 [.ref 3] (ms_x X t) (fK X t (RS b n (tkx b n s) cs lv w)) := by
  obtain ⟨r, g', ⟨Y, hk, e1, e2, hq⟩, hc⟩ := k_advance (d := d) (t := t) hW h.1 h.2.1.2.1 (tok_nx hs).1
  refine ⟨r, g', ⟨Y, hk, e1, e2, ?_, hq, ?_, ?_, fun i hi => ?_⟩, hc⟩
  · have f1 : f3 1 = false := rfl
    have f2 : f3 2 = false := rfl
    refine ⟨h.1.1, by rw [(hk.1.1 1 f1).1]; exact h.1.2.1, fun k hk2 => by rw [(hk.1.1 2 f2).2]; exact h.1.2.2 k hk2⟩
  · rw [hk.2 3 (by decide)]; exact h.2.2.1
  · rw [hk.2 5 (by decide)]; exact h.2.2.2.1
  · rw [(hk.1.1 4 rfl).2]; exact h.2.2.2.2 i hi
end Rl
