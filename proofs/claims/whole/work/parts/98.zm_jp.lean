/-! THE CLASS'S Reader: emitJump, aim, isPlain; written by wip/whole/mdl.py from zm_jp.txt -/
section Jp
variable {b w : Nat → Nat} {n s e f k c d p cs lv j : Nat} {X Y Z : cx_T} {t g : ms_S} {res : pr_T}
theorem k_isPlain (h : TQ b n s X) (h3 : tkc b n s < 2 ^ 31) : ms_Cl (d + 1) 81 [.ref 3] (ms_x X t) (some (.int (ms_bi (decide (263 ≤ tkc b n s ∧ tkc b n s < 268))))) (ms_x X t) := by
  refine m_X5_isPlain (Nat.le_refl _) (Nat.le_refl _) ⟨_, xo_3⟩ (b_X5_isPlain_0 (Q := ms_lf _ _) (ms_oI_i xf_3_8 ?_))
  rw [h.2.2.1, show (263 : Int32) = nI 263 from rfl, show (268 : Int32) = nI 268 from rfl]
  refine ms_ite2 (fun z => ?_) (fun z => ?_) <;> rw [ms_nlt (by omega) (by omega)] at z
  · rw [decide_eq_false (by omega)]
    exact ⟨(by first | exact Or.inr rfl | exact Or.inl rfl | exact Or.inl trivial | exact Or.inr trivial | trivial), rfl, rfl⟩
  refine ms_oI_i xf_3_8 ?_
  rw [h.2.2.1]
  refine ms_ite2 (fun z2 => ?_) (fun z2 => ?_) <;> rw [ms_nle (by omega) (by omega)] at z2
  · rw [decide_eq_false (by omega)]
    exact ⟨(by first | exact Or.inr rfl | exact Or.inl rfl | exact Or.inl trivial | exact Or.inr trivial | trivial), rfl, rfl⟩
  · rw [decide_eq_true (by omega)]
    exact ⟨(by first | exact Or.inr rfl | exact Or.inl rfl | exact Or.inl trivial | exact Or.inr trivial | trivial), rfl, rfl⟩
def fJv (X : cx_T) (t : ms_S) (v : Int32) (P : cx_T → Prop) (r : Option Value) (g' : ms_S) : Prop := ∃ Y, kp4 X Y ∧ g' = ms_x Y t ∧ r = some (.int v) ∧ P Y
theorem fJv_l {v : Int32} {P : cx_T → Prop} : ∀ r g', fJv X t v P r g' → (ms_x X t).length ≤ g'.length ∧ ms_tot (ms_x X t) ≤ ms_tot g' := by
  rintro r g' ⟨Y, hf, rfl, _⟩
  exact ⟨ms_x_l, ms_x_t⟩
theorem mj_c1 {K : Int32 → ms_S → Prop} {y : Nat} {as : List Value} {v : Int32} {P : cx_T → Prop} (hh : ms_H' d y as (ms_x X t) (fJv X t v P)) (hk : ∀ Y, kp4 X Y → P Y → K v (ms_x Y t)) : ms_c1 (ms_Cl d y as (ms_x X t)) K := by
  obtain ⟨r, g', ⟨Y, hf, e1, e2, hp⟩, hc⟩ := hh
  rw [e1, e2] at hc
  exact ms_c1_i hc (hk Y hf hp)
/-- and, or: their sign and room for where to go on -/
theorem k_emitJump (hW : HW) (h : RS b n s cs lv w X) (hs : s ≤ n) (hcs : cs ≤ 2 * s) (hc : cs + 1 < 800) (h1 : tkc b n s < 300) : ms_H' (d + 7) 83 [.ref 3] (ms_x X t) (fJv X t (nI (cs + 1)) (RS b n (tkx b n s) (cs + 2) lv (fun i => if i = cs + 1 then 0 else if i = cs then tkc b n s else w i))) := by
  refine mx_m (fun a b c => m_X5_emitJump a b ⟨_, xo_3⟩ c) fJv_l (b_X5_emitJump_0 (ms_oI_i xf_3_8 ?_))
  rw [h.2.1.2.2.1]
  refine ms_c0_i (k_emit (d := d + 5) h.2.2.1 (by omega)) ?_
  have h6 := RS_e (v := tkc b n s) h (by omega)
  have k6 : kp4 X (cx_ui (cx_ua X 4 cs (nI (tkc b n s))) 3 3 (nI (cs + 1))) := em_k
  generalize cx_ui (cx_ua X 4 cs (nI (tkc b n s))) 3 3 (nI (cs + 1)) = X2 at h6 k6 ⊢
  refine ms_c0_i (k_emit (d := d + 5) h6.2.2.1 (by omega)) ?_
  have h7 := RS_e (v := 0) h6 (by decide)
  have k7 : kp4 X2 (cx_ui (cx_ua X2 4 (cs + 1) (nI 0)) 3 3 (nI (cs + 1 + 1))) := em_k
  rw [show (0 : Int32) = nI 0 from rfl]
  generalize cx_ui (cx_ua X2 4 (cs + 1) (nI 0)) 3 3 (nI (cs + 1 + 1)) = X3 at h7 k7 ⊢
  refine mk_n0 (k_adv (d := d) hW h7 hs) (fun Y hk hR => ms_oI_i xf_3_3 ?_)
  rw [hR.2.2.1]
  refine ⟨Y, kp4_t k6 (kp4_t k7 (kp4_3 hk)), rfl, ?_, hR⟩
  rw [show nI (cs + 1 + 1) - 1 = nI (cs + 1) from ms_nI_m1]
/-- where it goes on -/
theorem k_aim (h : RS b n s cs lv w X) (hj : j < cs) (hc : cs ≤ 800) : ms_Cl (d + 1) 84 [.ref 3, .int (nI j)] (ms_x X t) none (ms_x (cx_ua X 4 j (nI cs)) t) ∧ RS b n s cs lv (fun i => if i = j then cs else w i) (cx_ua X 4 j (nI cs)) ∧ kp4 X (cx_ua X 4 j (nI cs)) := by
  have c4 : cA 4 800 := ⟨fun _ => rfl, fun _ _ _ => rfl, by decide⟩
  refine ⟨?_, ?_, fr_a fr_0 rfl, rfl⟩
  · refine m_X5_aim ms_x_l ms_x_t ⟨_, xo_3⟩ (b_X5_aim_0 (Q := ms_lf _ _) (ms_no (Int32.not_lt.mpr (ms_nI_0 (by omega))) ?_))
    simp only [xf_3_1, ms_oR_e, cA_l c4]
    refine ms_no (fun z => by rw [ms_nle (by omega) (by omega)] at z; omega) (ms_oI_i xf_3_3 ?_)
    rw [h.2.2.1, cA_w c4]
    refine ⟨ms_in (by omega) (by decide), ?_⟩
    rw [ms_nc (by omega)]
    exact ⟨rfl, rfl⟩
  · obtain ⟨⟨h1, h2, h3⟩, q, h5, h6, h7⟩ := h
    refine ⟨⟨h1, h2, fun k hk => by rw [cx_a_ua, if_neg (by omega)]; exact h3 k hk⟩, q, h5, h6, fun i hi => ?_⟩
    show cx_a (cx_ua X 4 j (nI cs)) 4 i = nI (if i = j then cs else w i) ∧ (if i = j then cs else w i) < 2 ^ 30
    rw [cx_a_ua]
    by_cases hij : i = j
    · rw [if_pos ⟨rfl, hij⟩, if_pos hij]
      exact ⟨rfl, by omega⟩
    · rw [if_neg (fun z => hij z.2), if_neg hij]
      exact h7 i hi
end Jp
