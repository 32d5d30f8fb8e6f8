/-! THE CLASS'S law(); written by wip/whole/mdl.py from zs_la.txt -/
def bk_addX (B : bk_T) (a : Nat) : bk_T := bk_sxc (bk_utx B (bk_xc B) (some a)) (bk_xc B + 1)
section Ax
variable {d a : Nat} {h t : ms_S} {B : bk_T} {fx : List Value}
theorem cb_addText (hn : bk_xc B < 20) (hx : (ms_b h B t)[a]? = some (.inr (7, fx))) : ms_Cl (d + 1) 19 [.ref h.length, .ref a] (ms_b h B t) (some (.int (nI (bk_xc B)))) (ms_b h (bk_addX B a) t) := by
  refine m_X0_addText ms_b_l ms_b_t ⟨_, ms_b_0⟩ (b_X0_addText_0 (Q := ms_lf _ _) ?_)
  refine ms_oI_i mb_f8 (ms_yes ((ms_nlt (b := 20) (by omega) (by decide)).mpr hn) (ms_oR_i mb_f4 (ms_oI_i mb_f8 ?_)))
  have h5 : (ms_b h B t)[h.length + 5]? = some (.inl (3, 20, .inr (.inr (bk_tx B)))) := ms_ga h _ 5
  refine ms_wA_i h5 hx rfl (ms_in (by omega) (by decide)) ?_
  rw [ms_nc (by omega), bk_utx_s]
  refine ms_oI_i mb_f8 ?_
  rw [be_xc_tx, show nI (bk_xc B) + 1 = nI (bk_xc B + 1) from ms_p1 1, mb_p8]
  refine ms_oI_i mb_f8 ?_
  refine ⟨congrArg (fun x => some (Value.int x)) ?_, rfl⟩
  rw [show bk_xc (bk_sxc (bk_utx B (bk_xc B) (some a)) (bk_xc B + 1)) = bk_xc B + 1 from rfl]
  exact ms_nI_m1
end Ax
section La
variable {b w : Nat → Nat} {n s e d p a F : Nat} {X Y Z : cx_T} {t : ms_S} {Cs : List cl_T} {fx : List Value}
theorem xm_addText (hn : bk_xc (cx_b X 6) < 20) (hx : (ms_x X t)[a]? = some (.inr (7, fx))) : ms_Cl (d + 1) 19 [.ref 6, .ref a] (ms_x X t) (some (.int (nI (bk_xc (cx_b X 6))))) (ms_x (cx_ub X 6 (bk_addX (cx_b X 6) a)) t) := cb_addText (h := (cx_c X).take 6) (B := cx_b X 6) (t := (cx_c X).drop 12 ++ t) hn hx
def KLq (X : cx_T) (t : ms_S) (res : Option (List cl_T ⊕ Nat)) (r : Option Value) (g' : ms_S) : Prop := match res with
  | none => r = some (.int (-5)) ∧ g' = ms_x (co_ref (cx_ui X 1 1 0) (-5)) t
  | some (.inr p) => ∃ Y, kp5 X Y ∧ r = some (.int (-6)) ∧ g' = ms_x (co_ref (cx_ui (cx_ui Y 1 1 0) 0 12 (nI p)) (-6)) t
  | some (.inl Cs) => ∃ Y T3, kp5 X Y ∧ r = some (.int (nI (bk_xc (cx_b X 6)))) ∧ g' = ms_x (co_acc (cx_ub (co_forget (cx_ui (cx_ui Y 1 1 0) 0 12 (-1))) 6 (bk_addX (cx_b X 6) (65 + t.length)))) (t ++ T3) ∧ T3.length = 3 ∧ ms_tot T3 ≤ 1000 ∧ (∀ t' : ms_S, t'.length = t.length → tl_c (t' ++ T3) (65 + t.length) Cs)
theorem KLq_l {res : Option (List cl_T ⊕ Nat)} : ∀ r g', KLq X t res r g' → (ms_x X t).length ≤ g'.length ∧ ms_tot (ms_x X t) ≤ ms_tot g' := by
  intro r g' h
  have h1 := fun Y => ms_x_l (X := X) (Y := Y) (t := t)
  have h2 := fun Y => ms_x_t (X := X) (Y := Y) (t := t)
  match res, h with
  | none, ⟨_, e⟩ =>
    rw [e]
    exact ⟨h1 _, h2 _⟩
  | some (.inr p), ⟨Y, _, _, e⟩ =>
    rw [e]
    exact ⟨h1 _, h2 _⟩
  | some (.inl Cs), ⟨Y, T3, _, _, e, _⟩ =>
    rw [e, ← mx_app]
    have h3 := h1 (co_acc (cx_ub (co_forget (cx_ui (cx_ui Y 1 1 0) 0 12 (-1))) 6 (bk_addX (cx_b X 6) (65 + t.length))))
    have h4 := h2 (co_acc (cx_ub (co_forget (cx_ui (cx_ui Y 1 1 0) 0 12 (-1))) 6 (bk_addX (cx_b X 6) (65 + t.length))))
    refine ⟨by rw [List.length_append]; omega, by rw [ms_tot_app2]; omega⟩
theorem k_law5 (h : 20 ≤ bk_xc (cx_b X 6)) (h2 : bk_xc (cx_b X 6) < 2 ^ 31) : ms_H' (dD 0 + 18) 107 [.ref 0] (ms_x X t) (KLq X t none) := by
  refine mx_m (fun a b c => m_X8_law a b ⟨_, xo_0⟩ c) KLq_l (b_X8_law_0 (ms_oR_i xf_0_2 (ms_oI_i xf_6_8 (ms_yes ?_ (ms_yes rfl (ms_oR_i xf_0_0 ?_))))))
  · rw [show (20 : Int32) = nI 20 from rfl, ms_nle (by decide) h2]
    exact h
  · rw [xp_1_1]
    exact ms_yes rfl (ms_c1_i (c8_refuse (d := dD 0 + 15)) ⟨rfl, rfl⟩)
theorem k_law (hA : KA b n F 0) (hW : HW) {G : Nat} {res : List cl_T ⊕ Nat} (h : bk_xc (cx_b X 6) < 20) (hT : TC X b n) (hres : pt b n F (G + 1) 0 0 [] = some res) : ms_H' (dD 0 + 18) 107 [.ref 0] (ms_x X t) (KLq X t (some res)) := by
  refine mx_m (fun a b c => m_X8_law a b ⟨_, xo_0⟩ c) KLq_l (b_X8_law_0 (ms_oR_i xf_0_2 (ms_oI_i xf_6_8 (ms_no (fun z => ?_) (ms_no (by decide) (ms_oR_i xf_0_1 ?_))))))
  · rw [show (20 : Int32) = nI 20 from rfl, ms_nle (by decide) (by omega)] at z
    omega
  obtain ⟨r, g', hq, hc⟩ := k_read (t := t) hA hW hT hres
  cases res with
  | inr p =>
    obtain ⟨Y, h1, e1, e2, h2, h3⟩ := hq
    rw [e1, e2] at hc
    refine ms_c3_n hc (ms_oR_i xf_0_0 ?_)
    rw [xp_1_1]
    refine ms_no (by decide) (ms_oR_i xf_0_1 (ms_oI_i xf_3_6 ?_))
    rw [show cx_i (cx_ui Y 1 1 0) 3 6 = cx_i Y 3 6 from cx_i_ui (by decide), h3, xp_0_12]
    exact ms_c1_i (c8_refuse (d := dD 0 + 15)) ⟨Y, h1, rfl, rfl⟩
  | inl Cs =>
    obtain ⟨Y, T3, h1, e1, e2, l1, l2, l3⟩ := hq
    rw [e1, e2] at hc
    refine ms_c3_s hc (ms_oR_i xf_0_0 ?_)
    rw [xp_1_1]
    refine ms_no (by decide) ?_
    rw [xp_0_12]
    refine ms_oR_i xf_0_5 (ms_c0_i (c8_forget (d := dD 0 + 15)) (ms_oR_i xf_0_2 ?_))
    have hb : cx_b (co_forget (cx_ui (cx_ui Y 1 1 0) 0 12 (-1))) 6 = cx_b X 6 := congrFun h1.2.2 6
    have l3' := l3 t rfl
    obtain ⟨ca, qa, m, w, qf, h65, hto, _⟩ := l3'
    have hx : (ms_x (co_forget (cx_ui (cx_ui Y 1 1 0) 0 12 (-1))) (t ++ T3))[65 + t.length]? = some (.inr (7, [.ref ca, .ref qa])) := by
      unfold ms_x
      rw [List.getElem?_append_right (by show 65 ≤ _; omega)]
      exact hto
    have hk := xm_addText (d := dD 0 + 16) (X := co_forget (cx_ui (cx_ui Y 1 1 0) 0 12 (-1))) (t := t ++ T3) (by rw [hb]; exact h) hx
    rw [hb] at hk
    exact ms_c1_i hk (ms_c1_i (c8_accept (d := dD 0 + 16)) ⟨Y, T3, h1, rfl, rfl, l1, l2, l3⟩)
end La
