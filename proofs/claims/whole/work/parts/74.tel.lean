/-! THE CLASS'S LAWS AT WORK: pieces of code, texts, tell; written by wip/whole/mdl.py from tel.txt -/
abbrev dn_T : Type := (Nat → Int32) → Option Int64
/-- a piece of code from s to e (with at most n leaves) that answers f -/
def CW (w : Nat → Nat) (s e n : Nat) (f : dn_T) : Prop := s < e ∧ 1 ≤ n ∧ ∀ (w' : Nat → Nat), (∀ i, s ≤ i → i < e → w' i = w i) → ∀ env stop l, e ≤ stop → l.length + n ≤ 51 → w_go w' env stop s l = match f env with
  | some v => w_go w' env stop e (v :: l)
  | none => none
section Cw
variable {w w1 : Nat → Nat} {s e m n n1 n2 : Nat} {f g : dn_T}
theorem CW.loc (h : CW w s e n f) (hw : ∀ i, s ≤ i → i < e → w1 i = w i) : CW w1 s e n f :=
  ⟨h.1, h.2.1, fun w' h' => h.2.2 w' (fun i h1 h2 => by rw [h' i h1 h2, hw i h1 h2])⟩
theorem CW.more (h : CW w s e n f) (hn : n ≤ n1) : CW w s e n1 f :=
  ⟨h.1, Nat.le_trans h.2.1 hn, fun w' h' env stop l he hl => h.2.2 w' h' env stop l he (by omega)⟩
theorem CW_word {i : Nat} (h : w s = 256 + i) (hi : i < 12) : CW w s (s + 1) 1 (fun env => some (env i).toInt64) := by
  refine ⟨Nat.lt_succ_self _, Nat.le_refl _, fun w' h' env stop l he hl => ?_⟩
  have e1 := h' s (Nat.le_refl _) (Nat.lt_succ_self _)
  rw [w_go_step (by omega), w_st_word (by omega) (by omega), e1, h, Nat.add_sub_cancel_left]
theorem CW_num (h : w s = 300) : CW w s (s + 2) 1 (fun _ => some (nI (w (s + 1))).toInt64) := by
  refine ⟨by omega, Nat.le_refl _, fun w' h' env stop l he hl => ?_⟩
  have e1 := h' s (Nat.le_refl _) (by omega)
  have e2 := h' (s + 1) (by omega) (by omega)
  rw [w_go_step (by omega), w_st_num (by omega) (by omega) (by omega), e2]
def dn_op (k : Nat) (f g : dn_T) : dn_T := fun env => match f env with
  | none => none
  | some a => match g env with
    | none => none
    | some b => w_jn k a b
theorem CW_op (h1 : CW w s m n1 f) (h2 : CW w m e n2 g) {k : Nat} (hk : w e = k) (hk1 : k < 256) : CW w s (e + 1) (n1 + n2) (dn_op k f g) := by
  have a1 := h1.1
  have a2 := h2.1
  have b1 := h1.2.1
  have b2 := h2.2.1
  refine ⟨by omega, by omega, fun w' h' env stop l he hl => ?_⟩
  rw [h1.2.2 w' (fun i z1 z2 => h' i z1 (by omega)) env stop l (by omega) (by omega)]
  unfold dn_op
  cases f env with
  | none => rfl
  | some a =>
    simp only
    rw [h2.2.2 w' (fun i z1 z2 => h' i (by omega) (by omega)) env stop (a :: l) (by omega) (by rw [List.length_cons]; omega)]
    cases g env with
    | none => rfl
    | some b =>
      have e1 := h' e (by omega) (by omega)
      simp only
      rw [w_go_step (by omega), w_st_op (by omega) (by omega) (by omega) (by omega) (by omega), e1, hk]
      cases w_jn k a b <;> rfl
def dn_not (f : dn_T) : dn_T := fun env => (f env).map fun a => 1 - a
theorem CW_not (h1 : CW w s e n f) (hk : w e = 276) : CW w s (e + 1) n (dn_not f) := by
  have a1 := h1.1
  refine ⟨by omega, h1.2.1, fun w' h' env stop l he hl => ?_⟩
  rw [h1.2.2 w' (fun i z1 z2 => h' i z1 (by omega)) env stop l (by omega) (by omega)]
  unfold dn_not
  have b1 := h1.2.1
  cases f env with
  | none => rfl
  | some a =>
    have e1 := h' e (by omega) (by omega)
    simp only
    rw [w_go_step (by omega), w_st_not (by omega) (by omega)]
    rfl
def dn_and (f g : dn_T) : dn_T := fun env => match f env with
  | none => none
  | some a => if a = 0 then some a else g env
def dn_or (f g : dn_T) : dn_T := fun env => match f env with
  | none => none
  | some a => if a = 0 then g env else some a
theorem CW_and (h1 : CW w s m n1 f) (hk : w m = 275) (he : w (m + 1) = e) (h2 : CW w (m + 2) e n2 g) : CW w s e (n1 + n2) (dn_and f g) := by
  have a1 := h1.1
  have a2 := h2.1
  have b1 := h1.2.1
  have b2 := h2.2.1
  refine ⟨by omega, by omega, fun w' h' env stop l hs hl => ?_⟩
  rw [h1.2.2 w' (fun i z1 z2 => h' i z1 (by omega)) env stop l (by omega) (by omega)]
  unfold dn_and
  cases f env with
  | none => rfl
  | some a =>
    have e1 := h' m (by omega) (by omega)
    have e2 := h' (m + 1) (by omega) (by omega)
    simp only
    by_cases ha : a = 0
    · rw [w_go_step (by omega), w_st_jmp (by omega) (by omega) (by omega) (Or.inl ⟨by omega, ha⟩), if_pos ha, e2, he]
      simp only
      rw [show max (m + 2) e = e by omega]
    · rw [w_go_step (by omega), w_st_pop (by omega) (by omega) (by omega) (Or.inl ⟨by omega, ha⟩), if_neg ha]
      exact h2.2.2 w' (fun i z1 z2 => h' i (by omega) (by omega)) env stop l (by omega) (by omega)
theorem CW_or (h1 : CW w s m n1 f) (hk : w m = 274) (he : w (m + 1) = e) (h2 : CW w (m + 2) e n2 g) : CW w s e (n1 + n2) (dn_or f g) := by
  have a1 := h1.1
  have a2 := h2.1
  have b1 := h1.2.1
  have b2 := h2.2.1
  refine ⟨by omega, by omega, fun w' h' env stop l hs hl => ?_⟩
  rw [h1.2.2 w' (fun i z1 z2 => h' i z1 (by omega)) env stop l (by omega) (by omega)]
  unfold dn_or
  cases f env with
  | none => rfl
  | some a =>
    have e1 := h' m (by omega) (by omega)
    have e2 := h' (m + 1) (by omega) (by omega)
    simp only
    by_cases ha : a = 0
    · rw [w_go_step (by omega), w_st_pop (by omega) (by omega) (by omega) (Or.inr ⟨by omega, ha⟩), if_pos ha]
      exact h2.2.2 w' (fun i z1 z2 => h' i (by omega) (by omega)) env stop l (by omega) (by omega)
    · rw [w_go_step (by omega), w_st_jmp (by omega) (by omega) (by omega) (Or.inr ⟨by omega, ha⟩), if_neg ha, e2, he]
      simp only
      rw [show max (m + 2) e = e by omega]
theorem CW.all (h : CW w s e n f) (hn : n ≤ 51) (env : Nat → Int32) : w_go w env e s [] = (f env).map fun v => [v] := by
  rw [h.2.2 w (fun _ _ _ => rfl) env e [] (Nat.le_refl _) (by simpa using hn)]
  cases f env with
  | none => rfl
  | some v => exact w_go_end (Nat.le_refl _)
end Cw
/-- a clause: its head, its sum, its test -/
abbrev cl_T : Type := Nat × dn_T × dn_T
def cl_holds (c : cl_T) (env : Nat → Int32) : Option Int64 := match c.2.2 env with
  | none => none
  | some b => if b = 0 then none else c.2.1 env
def cl_st (h : Nat) (env : Nat → Int32) (acc : Option Int64) (c : cl_T) : Option Int64 := if c.1 = h then (match cl_holds c env with | some v => some v | none => acc) else acc
def cl_last (h : Nat) (env : Nat → Int32) (acc : Option Int64) (cs : List cl_T) : Option Int64 := cs.foldl (cl_st h env) acc
def tx_last (h : Nat) (env : Nat → Int32) (Ts : List (List cl_T)) : Option Int64 := Ts.foldl (cl_last h env) none
def cl1000 (x : Int64) : Nat := if 1000 < x then 1000 else if x < 0 then 0 else x.toInt.toNat
theorem cl1000_le (x : Int64) : cl1000 x ≤ 1000 := by
  unfold cl1000
  split
  · exact Nat.le_refl _
  · rename_i h1
    split
    · exact Nat.zero_le _
    · have h2 := mt Int64.lt_iff_toInt_lt.mpr h1
      have : (1000 : Int64).toInt = 1000 := by decide
      omega
theorem cl1000_c (x : Int64) : Int64.toInt32 (if (if 1000 < x then 1000 else x) < 0 then 0 else (if 1000 < x then 1000 else x)) = nI (cl1000 x) := by
  unfold cl1000
  by_cases h1 : 1000 < x
  · simp only [if_pos h1]
    decide
  · simp only [if_neg h1]
    by_cases h2 : x < 0
    · simp only [if_pos h2]
      decide
    · simp only [if_neg h2]
      have h3 := mt Int64.lt_iff_toInt_lt.mpr h1
      have h4 := mt Int64.lt_iff_toInt_lt.mpr h2
      have h5 : (1000 : Int64).toInt = 1000 := by decide
      have h6 : (0 : Int64).toInt = 0 := by decide
      apply Int32.toInt_inj.mp
      rw [Int64.toInt_toInt32, nI_toInt (by omega), Int.bmod_eq_of_le (by omega) (by omega)]
      omega
/-- a text of laws in the tail -/
def tl_c (t : ms_S) (a : Nat) (cs : List cl_T) : Prop := ∃ (ca qa n : Nat) (w : Nat → Nat) (qf : Nat → Int32), 65 ≤ a ∧ t[a - 65]? = some (.inr (7, [.ref ca, .ref qa])) ∧ tl_w t ca n w ∧ tl_a t qa (4 * cs.length) qf ∧ cs.length ≤ 12 ∧ ∀ (i : Nat) (c : cl_T), cs[i]? = some c → c.1 < 5 ∧ qf (4 * i) = nI (268 + c.1) ∧ ∃ s m e : Nat, qf (4 * i + 1) = nI s ∧ qf (4 * i + 2) = nI m ∧ qf (4 * i + 3) = nI e ∧ s ≤ m ∧ m ≤ e ∧ e ≤ n ∧ (∃ k, k ≤ 51 ∧ CW w s m k c.2.1) ∧ ((m = e ∧ c.2.2 = fun _ => some 1) ∨ ∃ k, k ≤ 51 ∧ CW w m e k c.2.2)
/-- the texts of a book -/
def TX (t : ms_S) (B : bk_T) (Ts : List (List cl_T)) : Prop := Ts.length = bk_xc B ∧ ∀ (i : Nat) (cs : List cl_T), Ts[i]? = some cs → ∃ a, bk_tx B i = some a ∧ tl_c t a cs
/-- a book of the class's -/
def isB (X : cx_T) (b : Nat) (B : bk_T) : Prop := (b = 6 ∨ b = 34) ∧ B = cx_b X b ∧ bk_w B
theorem isB.bk {X : cx_T} {b : Nat} {B : bk_T} {t : ms_S} (h : isB X b B) : bk (ms_x X t) b B := by
  obtain ⟨h1, h2, h3⟩ := h
  rcases h1 with rfl | rfl
  · subst h2; exact xb_6 h3
  · subst h2; exact xb_34 h3
section Tel
variable {d b h : Nat} {X : cx_T} {t : ms_S} {B : bk_T} {Ts : List (List cl_T)} {env : Nat → Int32}
theorem isB_sq {a : Int64} {q : Nat → Int64} (hb : isB X b B) : isB (cx_sq X a q) b B := hb
theorem cl_last_app {acc : Option Int64} {cs : List cl_T} {c : cl_T} : cl_last h env acc (cs ++ [c]) = cl_st h env (cl_last h env acc cs) c := by
  unfold cl_last
  rw [List.foldl_append]
  rfl
theorem tx_last_app {cs : List cl_T} : tx_last h env (Ts ++ [cs]) = cl_last h env (tx_last h env Ts) cs := by
  unfold tx_last
  rw [List.foldl_append]
  rfl
def tell_r (o : Option Int64) : Int32 := match o with
  | none => -1
  | some v => nI (cl1000 v)
def c2_tl (X : cx_T) (t : ms_S) (o : Option Int64) (r : Option Value) (g' : ms_S) : Prop := ∃ a q, g' = ms_x (cx_sq X a q) t ∧ r = some (.int (tell_r o))
theorem take_1 {α : Type} {l : List α} {i : Nat} {a : α} (h : l[i]? = some a) : l.take (i + 1) = l.take i ++ [a] := by
  rw [List.take_succ, h]
  rfl
theorem nI4m {j : Nat} : nI (4 * (j + 1)) - 4 = nI (4 * j) := by
  rw [Nat.mul_succ, ← ms_p1]
  exact Int32.add_sub_cancel _ _
theorem c2_tell (hb : isB X b B) (hT : TX t B Ts) (hh : h < 5) (he : ∀ i, i < 12 → cx_a X 13 i = env i) : ms_H' (d + 3) 47 [.ref 12, .ref b, .int (nI (268 + h))] (ms_x X t) (c2_tl X t (tx_last h env Ts)) := by
  refine mx_m (fun a b c => m_X2_tell a b ⟨_, xo_12⟩ c) (fun r g' h => ?_) (b_X2_tell_0 ?_)
  · obtain ⟨a, q, e, _⟩ := h
    rw [e]
    exact ⟨ms_x_l, ms_x_t⟩
  have hxc : bk_xc B ≤ 20 := hb.2.2.2.2.2
  refine ms_oI_i (ms_fldI_of (isB.bk hb).1 rfl) ?_
  have outer : ∀ i, i ≤ bk_xc B → tx_last h env Ts = tx_last h env (Ts.take i) → ∀ a q, ms_V cd_X2_tell none 1 (ms_Cl (d + 2)) (c2_tl X t (tx_last h env Ts)) 7 [(0, .ref 12), (1, .ref b), (2, .int (nI (268 + h))), (3, .int (nI i - 1))] [] (ms_x (cx_sq X a q) t) := by
    intro i
    induction i with
    | zero =>
      intro hi hR a q
      refine b_X2_tell_7 (ms_yes (by decide) ⟨a, q, rfl, ?_⟩)
      rw [hR]
      rfl
    | succ i ih =>
      intro hi hR a q
      have hlen := hT.1
      have hcs : Ts[i]? = some (Ts[i]'(by omega)) := List.getElem?_eq_getElem _
      obtain ⟨ta, hta, ca, qa, n, w, qf, h65, hto, hw, hqa, hc12, hcl⟩ := hT.2 i _ hcs
      generalize hcsv : Ts[i]'(by omega) = cs at hcs hqa hc12 hcl
      rw [take_1 hcs, tx_last_app] at hR
      refine b_X2_tell_7 (ms_no (fun z => ?_) ?_)
      · rw [ms_nI_m1] at z
        exact absurd z (Int32.not_lt.mpr (ms_nI_0 (by omega)))
      rw [ms_nI_m1]
      have etx : bk_txt B (nI i) = some ta := by
        unfold bk_txt
        rw [ms_ix_nI (by omega), decide_eq_true (show i < bk_xc B by omega), ms_nc (by omega), hta]
        rfl
      refine ⟨some ta, _, etx ▸ c_textAt (isB.bk (isB_sq hb)), ?_⟩
      have hget : ∀ X' : cx_T, (ms_x X' t)[ta]? = some (.inr (7, [.ref ca, .ref qa])) := by
        intro X'
        unfold ms_x
        rw [List.getElem?_append_right (show (cx_c X').length ≤ ta from h65)]
        exact hto
      refine ms_oR_i (ms_fldR_of (hget _) rfl) ?_
      rw [tl_l hqa]
      have inner : ∀ j, j ≤ cs.length → tx_last h env Ts = cl_last h env (tx_last h env (Ts.take i)) (cs.take j) → ∀ a q, ms_V cd_X2_tell none 1 (ms_Cl (d + 2)) (c2_tl X t (tx_last h env Ts)) 39 [(0, .ref 12), (1, .ref b), (2, .int (nI (268 + h))), (3, .int (nI i)), (4, .ref ta), (5, .ref qa), (6, .int (nI (4 * j) - 4))] [] (ms_x (cx_sq X a q) t) := by
        intro j
        induction j with
        | zero =>
          intro hj hR2 a q
          refine b_X2_tell_39 (ms_yes (by decide) ?_)
          rw [show nI i + (-1) = nI i - 1 from (Int32.sub_eq_add_neg _ _).symm]
          exact ih (by omega) hR2 a q
        | succ j ihj =>
          intro hj hR2 a q
          have hcj : cs[j]? = some (cs[j]'(by omega)) := List.getElem?_eq_getElem _
          obtain ⟨hc5, hq0, s, m, e, hq1, hq2, hq3, hsm, hme, hen, ⟨k1, hk1, hS⟩, hTst⟩ := hcl j _ hcj
          generalize hcv : cs[j]'(by omega) = c at hcj hc5 hq0 hS hTst
          rw [take_1 hcj, cl_last_app] at hR2
          refine b_X2_tell_39 ?_
          rw [nI4m]
          refine ms_no (Int32.not_lt.mpr (ms_nI_0 (by omega))) ?_
          have hrd : ∀ (o : Nat) (_ : o < 4) (X' : cx_T) (K : Int32 → Prop), K (qf (4 * j + o)) → ms_rI (ms_x X' t) qa 0 (nI (4 * j) + nI o) K := by
            intro o ho X' K hK
            rw [tl_r hqa, ms_p1]
            refine ⟨ms_in (by omega) (by omega), ?_⟩
            rw [ms_nc (by omega)]
            exact hK
          have hnext : cl_st h env (cl_last h env (tx_last h env (Ts.take i)) (cs.take j)) c = cl_last h env (tx_last h env (Ts.take i)) (cs.take j) → ∀ a q, ms_V cd_X2_tell none 1 (ms_Cl (d + 2)) (c2_tl X t (tx_last h env Ts)) 39 [(0, .ref 12), (1, .ref b), (2, .int (nI (268 + h))), (3, .int (nI i)), (4, .ref ta), (5, .ref qa), (6, .int (nI (4 * j) + (-4)))] [] (ms_x (cx_sq X a q) t) := by
            intro e9 a q
            rw [show nI (4 * j) + (-4) = nI (4 * j) - 4 from (Int32.sub_eq_add_neg _ _).symm]
            exact ihj (by omega) (by rw [hR2, e9]) a q
          refine hrd 0 (by decide) _ _ ?_
          rw [Nat.add_zero, hq0]
          by_cases hh1 : c.1 = h
          · refine ms_yes (by rw [hh1]) (hrd 2 (by decide) _ _ ?_)
            refine ms_oR_i (ms_fldR_of (hget _) rfl) (hrd 3 (by decide) _ _ ?_)
            rw [hq2, hq3]
            have htest : w_go w env e m [] = (c.2.2 env).map (fun v => [v]) ∨ (m = e ∧ w_go w env e m [] = some [] ∧ c.2.2 env = some 1) := by
              rcases hTst with ⟨z1, z2⟩ | ⟨k2, hk2, hC⟩
              · refine Or.inr ⟨z1, ?_, by rw [z2]⟩
                rw [z1]
                exact w_go_end (Nat.le_refl _)
              · exact Or.inl (hC.all hk2 env)
            have hwk := c2_works (d := d) (X := cx_sq X a q) (t := t) (w := w) (env := env) (s0 := m) (stop := e) hw hen hme he
            refine mx_c1 hwk (fun r g' hr => ?_)
            obtain ⟨a1, q1, rfl, hr⟩ := hr
            have hval : (c.2.2 env = none ∧ r = some (.int 0)) ∨ ∃ v, c.2.2 env = some v ∧ r = some (.int 1) ∧ a1 = v := by
              rcases htest with z | ⟨_, z1, z2⟩
              · rw [z] at hr
                cases hf : c.2.2 env with
                | none => rw [hf] at hr; exact Or.inl ⟨rfl, hr⟩
                | some v => rw [hf] at hr; exact Or.inr ⟨v, rfl, hr.1, hr.2⟩
              · rw [z1] at hr
                exact Or.inr ⟨1, z2, hr.1, hr.2⟩
            rcases hval with ⟨hv1, hv2⟩ | ⟨v, hv1, hv2, hv3⟩
            · refine ⟨0, hv2, ms_yes rfl (ms_yes rfl ?_)⟩
              refine hnext ?_ _ _
              unfold cl_st cl_holds
              rw [if_pos hh1, hv1]
            · refine ⟨1, hv2, ms_no (by decide) ?_⟩
              show ms_oL (ms_fldL (ms_x (cx_sq X a1 q1) t) 12 2 2) _
              rw [xf_12_2, ms_oL_e, show cx_g (cx_sq X a1 q1) = v from hv3]
              by_cases hv0 : v = 0
              · refine ms_yes ((lg_cmp_eq _ _).mpr hv0) (ms_yes rfl ?_)
                refine hnext ?_ _ _
                unfold cl_st cl_holds
                rw [if_pos hh1, hv1]
                simp only
                rw [if_pos hv0]
              · refine ms_no (mt (lg_cmp_eq _ _).mp hv0) (ms_no (by decide) ?_)
                refine ms_oR_i (ms_fldR_of (hget _) rfl) (hrd 1 (by decide) _ _ ?_)
                rw [hq1]
                have hwk2 := c2_works (d := d) (X := cx_sq X a1 q1) (t := t) (w := w) (env := env) (s0 := s) (stop := m) hw (by omega) hsm he
                refine mx_c1 hwk2 (fun r g' hr => ?_)
                obtain ⟨a2, q2, rfl, hr⟩ := hr
                rw [hS.all hk1 env] at hr
                cases hf : c.2.1 env with
                | none =>
                  rw [hf] at hr
                  refine ⟨0, hr, ms_yes rfl (hnext ?_ _ _)⟩
                  unfold cl_st cl_holds
                  rw [if_pos hh1, hv1]
                  simp only
                  rw [if_neg hv0, hf]
                | some v2 =>
                  rw [hf] at hr
                  refine ⟨1, hr.1, ms_no (by decide) ?_⟩
                  show ms_oL (ms_fldL (ms_x (cx_sq X a2 q2) t) 12 2 2) _
                  rw [xf_12_2, ms_oL_e, show cx_g (cx_sq X a2 q2) = v2 from hr.2]
                  refine ⟨a2, q2, rfl, ?_⟩
                  rw [cl1000_c, hR2]
                  unfold cl_st cl_holds
                  rw [if_pos hh1, hv1]
                  simp only
                  rw [if_neg hv0, hf]
                  rfl
          · refine ms_no (fun z => hh1 ?_) (hnext ?_ _ _)
            · have := (ms_nI_eq (by omega) (by omega)).mp z
              omega
            · unfold cl_st
              rw [if_neg hh1]
      exact inner cs.length (Nat.le_refl _) (by rw [List.take_length]; exact hR) a q
  have h0 := outer (bk_xc B) (Nat.le_refl _) (by rw [← hT.1, List.take_length]) (cx_g X) (cx_q X)
  exact h0
end Tel
