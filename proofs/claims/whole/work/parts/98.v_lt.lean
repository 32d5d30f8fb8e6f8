/-! A THING MORE: what is kept of the leasts stays right; written by wip/whole/mdl.py from v_lt.txt -/
/-- alike but for things behind the first so many -/
def ThE (A A2 : ab_T) : Prop := (ab_p A2 = ab_p A ∧ ab_e A2 = ab_e A) ∧ A2.2.2 = A.2.2 ∧ ∀ i, i < ab_t A → ∀ j, ab_th A2 i j = ab_th A i j
section Lt
variable {A A2 : ab_T} {X : cx_T} {i j k n p o e f u v x s L a b : Nat} {S : List Nat}
theorem te_en (h : ThE A A2) : ab_en A2 = ab_en A := by
  unfold ab_en
  rw [h.2.1]
theorem te_pa (h : ThE A A2) : ab_pa A2 = ab_pa A := by
  unfold ab_pa
  rw [h.2.1]
theorem te_x (h : ThE A A2) : ab_x A2 = ab_x A := by
  unfold ab_x
  rw [h.2.1]
theorem te_l (h : ThE A A2) : ab_l A2 p = ab_l A p := by
  unfold ab_l
  rw [h.1.2, te_en h]
theorem te_n (h : ThE A A2) : ab_n A2 e = ab_n A e := by
  unfold ab_n
  rw [te_en h]
theorem te_qe (h : ThE A A2) : q_e A2 p i = q_e A p i := by
  unfold q_e
  rw [te_l h]
theorem te_gh (h : ThE A A2) (hi : i < ab_t A) : ab_gh A2 i = ab_gh A i := by
  unfold ab_gh
  rw [h.2.2 i hi]
theorem te_T (h : ThE A A2) (hi : i < ab_t A) : en_T A2 i = en_T A i := by
  funext k
  unfold en_T
  rw [te_gh h hi, h.2.2 i hi]
theorem te_tl (h : ThE A A2) {env : Nat → Int32} : tells A2 a b env = tells A a b env := by
  unfold tells
  rw [te_x h]
theorem te_E (h : ThE A A2) (hi : i < ab_t A) : en_E A2 i p = en_E A i p := by
  funext k
  unfold en_E
  rw [te_pa h, te_T h hi]
theorem te_S (h : ThE A A2) (hi : i < ab_t A) : en_S A2 i f u v = en_S A i f u v := by
  funext k
  unfold en_S
  rw [te_T h hi]
theorem te_P (h : ThE A A2) : en_P A2 p o = en_P A p o := by
  funext k
  unfold en_P
  rw [te_pa h]
theorem te_slip (h : ThE A A2) (hi : i < ab_t A) : ab_slip A2 i f u v = ab_slip A i f u v := by
  unfold ab_slip
  rw [te_S h hi, te_tl h]
theorem te_slips (h : ThE A A2) (hi : ab_en A e 1 < ab_t A) : ab_slips A2 a e = ab_slips A a e := by
  unfold ab_slips
  rw [te_en h]
  exact sm_congr _ (fun f _ => te_slip h hi)
theorem te_look (h : ThE A A2) (hi : ab_en A e 1 < ab_t A) : ab_look A2 e = ab_look A e := by
  unfold ab_look ab_birth ab_lookc
  rw [te_en h, te_gh h hi, te_E h hi, te_tl h, te_tl h]
  have : sm (fun f => ab_slip A2 (ab_en A e 1) f (ab_th A2 (ab_en A e 1) f) (ab_en A e (2 + f))) 4 = sm (fun f => ab_slip A (ab_en A e 1) f (ab_th A (ab_en A e 1) f) (ab_en A e (2 + f))) 4 := sm_congr _ (fun f _ => by rw [te_slip h hi, h.2.2 _ hi])
  rw [this]
theorem te_lf (h : ThE A A2) (hi : ab_en A e 1 < ab_t A) : ab_lf A2 e o = ab_lf A e o := by
  have : lf_st A2 e = lf_st A e := by
    funext acc f
    unfold lf_st
    rw [te_en h, te_slips h hi]
  unfold ab_lf
  rw [te_l h, this]
theorem te_op (h : ThE A A2) : ab_op A2 p o = ab_op A p o := by
  unfold ab_op ab_sh ab_bars
  rw [te_pa h, te_l h, te_l h, te_en h, te_P h, te_x h]
theorem te_ob (h : ThE A A2) : obits A2 p = obits A p := by
  unfold obits
  rw [show ab_op A2 p = ab_op A p from funext fun o => te_op h, h.1.1]
theorem te_qop (h : ThE A A2) : q_op A2 p S = q_op A p S := by
  funext s
  unfold q_op ab_open
  rw [te_P h, te_tl h]
theorem te_th (hw : ab_w A) (hi : i < (ab_l A p).length) : ab_en A (q_e A p i) 1 < ab_t A := (hw.2.2.2.2.1 _ (q_e_lt hi).1).2
theorem te_qlk (h : ThE A A2) (hw : ab_w A) (hi : i < (ab_l A p).length) : q_lk A2 p i = q_lk A p i := by
  unfold q_lk
  rw [te_qe h, te_look h (te_th hw hi)]
theorem te_qlf (h : ThE A A2) (hw : ab_w A) (hi : i < (ab_l A p).length) : q_lf A2 p S i = q_lf A p S i := by
  funext s
  unfold q_lf
  rw [te_qe h, te_lf h (te_th hw hi)]
theorem te_qs (h : ThE A A2) (hw : ab_w A) : q_s A2 p S x = q_s A p S x := by
  show ck_o (q_op A2 p S) x S.length + sm (fun i => min (q_lk A2 p i) (ck_m (q_lf A2 p S i) x S.length)) (ab_l A2 p).length = ck_o (q_op A p S) x S.length + sm (fun i => min (q_lk A p i) (ck_m (q_lf A p S i) x S.length)) (ab_l A p).length
  rw [te_qop h, te_l h]
  have : sm (fun i => min (q_lk A2 p i) (ck_m (q_lf A2 p S i) x S.length)) (ab_l A p).length = sm (fun i => min (q_lk A p i) (ck_m (q_lf A p S i) x S.length)) (ab_l A p).length := sm_congr _ (fun i hi => by rw [te_qlk h hw hi, te_qlf h hw hi])
  rw [this]
theorem te_lb (h : ThE A A2) (hw : ab_w A) : lb A2 p S = lb A p S := by
  unfold lb
  rw [show q_s A2 p S = q_s A p S from funext fun x => te_qs h hw]
theorem te_or (h : ThE A A2) (hw : ab_w A) (hi : i < (ab_l A p).length) : q_or A2 p S x i = q_or A p S x i := by
  unfold q_or
  rw [te_qlk h hw hi, te_qlf h hw hi, te_qe h]
  have : (fun s => (ab_lf A2 (q_e A p i) (S.getD s 0)).2) = fun s => (ab_lf A (q_e A p i) (S.getD s 0)).2 := funext fun s => by rw [te_lf h (te_th hw hi)]
  rw [this]
theorem nl_p_0 : nl_p A p S x 0 = (((ck_o (q_op A p S) x S.length : Nat) : Int), 0, []) := rfl
theorem te_st (h : ThE A A2) (hw : ab_w A) {acc : Int × Nat × List Int} (hj : j < (ab_l A p).length) : nl_st A2 p S x acc j = nl_st A p S x acc j := by
  unfold nl_st
  rw [te_qe h, te_en h, te_gh h (te_th hw hj), te_qlk h hw hj, te_qlf h hw hj]
theorem te_nlp (h : ThE A A2) (hw : ab_w A) (j : Nat) (hj : j ≤ (ab_l A p).length) : nl_p A2 p S x j = nl_p A p S x j := by
  induction j with
  | zero => rw [nl_p_0, nl_p_0, te_qop h]
  | succ j ih => rw [nl_p_s, nl_p_s, ih (by omega), te_st h hw hj]
theorem te_nlf (h : ThE A A2) (hw : ab_w A) : nl_f A2 p S x = nl_f A p S x := by
  rw [nl_f_p, nl_f_p, te_l h]
  exact te_nlp h hw _ (Nat.le_refl _)
theorem te_lkr (h : ThE A A2) (hw : ab_w A) : ∀ X, lkr_n A2 p S b k X = lkr_n A p S b k X
  | 0 => rfl
  | X + 1 => by
    have ih := te_lkr h hw X
    show (if q_s A2 p S X ≤ b then min (lkr_n A2 p S b k X) (nl_v (nl_f A2 p S X) k) else lkr_n A2 p S b k X) = if q_s A p S X ≤ b then min (lkr_n A p S b k X) (nl_v (nl_f A p S X) k) else lkr_n A p S b k X
    rw [ih, te_qs h hw, te_nlf h hw]
theorem LC_th (h : ThE A A2) (hw : ab_w A) (hL : LC A L X) : LC A2 L X := by
  intro p hp
  rw [h.1.1] at hp
  obtain ⟨g1, g2, g3⟩ := hL p hp
  refine ⟨?_, g2.imp id (fun ⟨x, hx, s1, s2, s3, s4⟩ => ⟨x, hx, s1, ?_, ?_, fun j hj => ?_⟩), g3.imp id (fun ⟨x, hx, r1, r2⟩ => ⟨x, hx, r1, fun k hk => ?_⟩)⟩
  · rw [te_ob h]
    exact g1
  · rw [te_lb h hw]
    exact s2
  · rw [te_lb h hw]
    exact s3
  · rw [te_l h] at hj
    rw [te_lb h hw, te_qe h, te_or h hw hj]
    exact s4 j hj
  · rw [r2 k hk]
    unfold lkr
    rw [te_lkr h hw, te_lb h hw]
end Lt
