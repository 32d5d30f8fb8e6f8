/-! THE CLASS'S Reader: clauses and texts; written by wip/whole/mdl.py from zq_cl.txt -/
abbrev pk_T : Type := (cl_T × Nat × Nat) ⊕ Nat
def fB : dn_T := fun _ => some (nI 0).toInt64
def fU : dn_T := fun _ => some 1
/-- what stands behind a clause's sum -/
def pkT (b : Nat → Nat) (n F h : Nat) (f : dn_T) (s lv : Nat) : Option pk_T := if tkc b n s = 273 then (match pz b n F 0 0 fB (tkx b n s) lv with
    | none => none
    | some (.inr p) => some (.inr p)
    | some (.inl a) => some (.inl ((h, f, a.1), a.2.1, a.2.2))) else some (.inl ((h, f, fU), s, lv))
/-- a clause -/
def pk (b : Nat → Nat) (n F s lv cnt : Nat) : Option pk_T := if 12 ≤ cnt ∨ tkc b n s < 268 ∨ 272 < tkc b n s then some (.inr (tkp b n s)) else if tkc b n s = 272 then pkT b n F 4 fB (tkx b n s) lv else (match pz b n F 5 0 fB (tkx b n s) lv with
    | none => none
    | some (.inr p) => some (.inr p)
    | some (.inl a) => pkT b n F (tkc b n s - 268) a.1 a.2.1 a.2.2)
/-- a text -/
def pt (b : Nat → Nat) (n F : Nat) : Nat → Nat → Nat → List cl_T → Option (List cl_T ⊕ Nat)
  | 0, _, _, _ => none
  | G + 1, s, lv, cs => match pk b n F s lv cs.length with
    | none => none
    | some (.inr p) => some (.inr p)
    | some (.inl a) => if tkc b n a.2.1 = 59 then pt b n F G (tkx b n a.2.1) a.2.2 (cs ++ [a.1]) else if tkc b n a.2.1 = 301 then some (.inl (cs ++ [a.1])) else some (.inr (tkp b n a.2.1))
/-- a clause's row -/
def CLW (X : cx_T) (w : Nat → Nat) (cs i : Nat) (c : cl_T) : Prop := c.1 < 5 ∧ cx_a X 5 (4 * i) = nI (268 + c.1) ∧ ∃ s m e : Nat, cx_a X 5 (4 * i + 1) = nI s ∧ cx_a X 5 (4 * i + 2) = nI m ∧ cx_a X 5 (4 * i + 3) = nI e ∧ s ≤ m ∧ m ≤ e ∧ e ≤ cs ∧ (∃ k, k ≤ 51 ∧ CW w s m k c.2.1) ∧ ((m = e ∧ c.2.2 = fun _ => some 1) ∨ ∃ k, k ≤ 51 ∧ CW w m e k c.2.2)
def RC (b : Nat → Nat) (n s cs lv : Nat) (w : Nat → Nat) (Cs : List cl_T) (X : cx_T) : Prop := RS b n s cs lv w X ∧ s ≤ n ∧ cs ≤ 2 * s ∧ lv ≤ 50 ∧ Cs.length ≤ 12 ∧ cx_i X 3 4 = nI Cs.length ∧ ∀ (i : Nat) (c : cl_T), Cs[i]? = some c → CLW X w cs i c
def f345 (c : Nat) : Bool := decide (c = 3 ∨ c = 4 ∨ c = 5)
def kp5 (X Y : cx_T) : Prop := cx_fr f345 X Y
def RCq (b : Nat → Nat) (n : Nat) (Cs : List cl_T) (X : cx_T) (t : ms_S) (res : pk_T) (r : Option Value) (g' : ms_S) : Prop := match res with
  | .inr p => ∃ Y, kp5 X Y ∧ g' = ms_x Y t ∧ r = some (.int 0) ∧ TC Y b n ∧ cx_i Y 3 6 = nI p
  | .inl a => ∃ Y w cs, kp5 X Y ∧ g' = ms_x Y t ∧ r = some (.int 1) ∧ RC b n a.2.1 cs a.2.2 w (Cs ++ [a.1]) Y
def rowX (Y : cx_T) (j : Nat) (a b c e : Int32) : cx_T := cx_ui (cx_ua (cx_ua (cx_ua (cx_ua Y 5 (4 * j) a) 5 (4 * j + 1) b) 5 (4 * j + 2) c) 5 (4 * j + 3) e) 3 4 (nI (j + 1))
section Cl
variable {b w w0 : Nat → Nat} {n s e f k c d D p cs cs0 lv lv0 sl j dp y F h sm cnt : Nat} {X Y Z X0 : cx_T} {t g T : ms_S} {as : List Value} {f0 f1 : dn_T} {Cs : List cl_T}
theorem kp5_4 (h : kp4 X Y) : kp5 X Y := fr_s h.1 (fun c hc => decide_eq_false (fun z => of_decide_eq_false hc (by rcases z with z | z <;> omega)))
theorem kp5_t (h : kp5 X Y) (k : kp5 Y Z) : kp5 X Z := fr_t h k
theorem RCq_l {res : pk_T} : ∀ r g', RCq b n Cs X t res r g' → (ms_x X t).length ≤ g'.length ∧ ms_tot (ms_x X t) ≤ ms_tot g' := by
  intro r g' h
  cases res with
  | inr p =>
    obtain ⟨Y, _, e, _⟩ := h
    rw [e]
    exact ⟨ms_x_l, ms_x_t⟩
  | inl a =>
    obtain ⟨Y, w, cs, _, e, _⟩ := h
    rw [e]
    exact ⟨ms_x_l, ms_x_t⟩
theorem RC_fail (h1 : kp5 X Y) (h2 : TC Y b n) (h3 : cx_i Y 3 6 = nI p) : RCq b n Cs X t (.inr p) (some (.int 0)) (ms_x Y t) := ⟨Y, h1, rfl, rfl, h2, h3⟩
theorem rowX_i {a b c e : Int32} {q : Nat} (hq : q ≠ 4) : cx_i (rowX Y j a b c e) 3 q = cx_i Y 3 q := by
  unfold rowX
  rw [cx_i_ui (fun z => hq z.2)]
  rfl
theorem rowX_4 {a b c e : Int32} : cx_i (rowX Y j a b c e) 3 4 = nI (j + 1) := cx_i_self
theorem rowX_a {a b c e : Int32} {q m : Nat} : cx_a (rowX Y j a b c e) q m = if q = 5 ∧ m = 4 * j + 3 then e else if q = 5 ∧ m = 4 * j + 2 then c else if q = 5 ∧ m = 4 * j + 1 then b else if q = 5 ∧ m = 4 * j then a else cx_a Y q m := by
  show cx_a (cx_ua (cx_ua (cx_ua (cx_ua Y 5 (4 * j) a) 5 (4 * j + 1) b) 5 (4 * j + 2) c) 5 (4 * j + 3) e) q m = _
  rw [cx_a_ua, cx_a_ua, cx_a_ua, cx_a_ua]
theorem rowX_k {a b c e : Int32} : kp5 Y (rowX Y j a b c e) := fr_i (fr_a (fr_a (fr_a (fr_a fr_0 rfl) rfl) rfl) rfl) rfl
theorem rowX_S {a b' c e : Int32} (h : RS b n s cs lv w Y) : RS b n s cs lv w (rowX Y j a b' c e) := by
  obtain ⟨⟨h1, h2, h3⟩, ⟨q1, q2, q3, q4⟩, h5, h6, h7⟩ := h
  refine ⟨⟨h1, h2, fun k hk => by rw [rowX_a, if_neg (by omega), if_neg (by omega), if_neg (by omega), if_neg (by omega)]; exact h3 k hk⟩, ⟨by rw [rowX_i (by decide)]; exact q1, by rw [rowX_i (by decide)]; exact q2, by rw [rowX_i (by decide)]; exact q3, fun z => by rw [rowX_i (by decide)]; exact q4 z⟩, by rw [rowX_i (by decide)]; exact h5, by rw [rowX_i (by decide)]; exact h6, fun i hi => by rw [rowX_a, if_neg (by omega), if_neg (by omega), if_neg (by omega), if_neg (by omega)]; exact h7 i hi⟩
theorem k_row {v1 v2 x1 : Int32} {Q : Option Value → ms_S → Prop} (h4 : cx_i Y 3 4 = nI j) (hj : j < 12) (h3 : cx_i Y 3 3 = nI cs) (hQ : Q (some (.int 1)) (ms_x (rowX Y j v1 v2 x1 (nI cs)) t)) : ms_oI (ms_fldI (ms_x Y t) 3 5 4) fun x6 => ms_oR (ms_fldR (ms_x Y t) 3 5 2) fun x7 => ms_wI (ms_x Y t) x7 ((x6 * 4) + 0) v1 fun g8 => ms_oR (ms_fldR g8 3 5 2) fun x9 => ms_wI g8 x9 ((x6 * 4) + 1) v2 fun g10 => ms_oR (ms_fldR g10 3 5 2) fun x11 => ms_wI g10 x11 ((x6 * 4) + 2) x1 fun g12 => ms_oR (ms_fldR g12 3 5 2) fun x13 => ms_oI (ms_fldI g12 3 5 3) fun x14 => ms_wI g12 x13 ((x6 * 4) + 3) x14 fun g15 => ms_oI (ms_fldI g15 3 5 4) fun x16 => ms_wF g15 3 5 4 (.int (x16 + 1)) fun g17 => (1 = (0 : Int32) ∨ 1 = (1 : Int32)) ∧ Q (some (.int 1)) g17 := by
  have c5 : cA 5 48 := ⟨fun _ => rfl, fun _ _ _ => rfl, by decide⟩
  have e0 : nI j * 4 + 0 = nI (4 * j) := by rw [show nI j * 4 = nI (j * 4) from nI_mul j 4, Nat.mul_comm]; exact Int32.add_zero _
  have e1 : nI j * 4 + 1 = nI (4 * j + 1) := by rw [show nI j * 4 = nI (j * 4) from nI_mul j 4, Nat.mul_comm]; exact ms_p1 1
  have e2 : nI j * 4 + 2 = nI (4 * j + 2) := by rw [show nI j * 4 = nI (j * 4) from nI_mul j 4, Nat.mul_comm]; exact ms_p1 2
  have e3 : nI j * 4 + 3 = nI (4 * j + 3) := by rw [show nI j * 4 = nI (j * 4) from nI_mul j 4, Nat.mul_comm]; exact ms_p1 3
  refine ms_oI_i xf_3_4 ?_
  rw [h4]
  refine ms_oR_i xf_3_2 ?_
  rw [e0, cA_w c5]
  refine ⟨ms_in (by omega) (by decide), ?_⟩
  rw [ms_nc (by omega)]
  refine ms_oR_i xf_3_2 ?_
  rw [e1, cA_w c5]
  refine ⟨ms_in (by omega) (by decide), ?_⟩
  rw [ms_nc (by omega)]
  refine ms_oR_i xf_3_2 ?_
  rw [e2, cA_w c5]
  refine ⟨ms_in (by omega) (by decide), ?_⟩
  rw [ms_nc (by omega)]
  refine ms_oR_i xf_3_2 (ms_oI_i xf_3_3 ?_)
  rw [show cx_i (cx_ua (cx_ua (cx_ua Y 5 (4 * j) v1) 5 (4 * j + 1) v2) 5 (4 * j + 2) x1) 3 3 = cx_i Y 3 3 from rfl, h3, e3, cA_w c5]
  refine ⟨ms_in (by omega) (by decide), ?_⟩
  rw [ms_nc (by omega)]
  refine ms_oI_i xf_3_4 ?_
  rw [show cx_i (cx_ua (cx_ua (cx_ua (cx_ua Y 5 (4 * j) v1) 5 (4 * j + 1) v2) 5 (4 * j + 2) x1) 5 (4 * j + 3) (nI cs)) 3 4 = cx_i Y 3 4 from rfl, h4, xp_3_4, show nI j + 1 = nI (j + 1) from ms_p1 1]
  exact ⟨Or.inr rfl, hQ⟩
theorem RW_up {X Y : cx_T} {w w' : Nat → Nat} {cs cs' i : Nat} {c : cl_T} (h : CLW X w cs i c) (hc : cs ≤ cs') (hw : ∀ i, i < cs → w' i = w i) (ha : ∀ m, m < 4 * i + 4 → cx_a Y 5 m = cx_a X 5 m) : CLW Y w' cs' i c := by
  obtain ⟨h1, h2, s, m, e, a1, a2, a3, h3, h4, h5, ⟨k, hk, h6⟩, h7⟩ := h
  refine ⟨h1, by rw [ha _ (by omega)]; exact h2, s, m, e, by rw [ha _ (by omega)]; exact a1, by rw [ha _ (by omega)]; exact a2, by rw [ha _ (by omega)]; exact a3, h3, h4, by omega, ⟨k, hk, h6.loc (fun i _ i2 => hw i (by omega))⟩, ?_⟩
  rcases h7 with h7 | ⟨k2, hk2, h7⟩
  · exact Or.inl h7
  · exact Or.inr ⟨k2, hk2, h7.loc (fun i _ i2 => hw i (by omega))⟩
/-- a clause more -/
theorem RC_row {c0 : cl_T} {cs1 sm m lv1 s1 : Nat} {w1 : Nat → Nat} (hR : RS b n s1 cs1 lv1 w1 Y) (hs : s1 ≤ n) (hcs : cs1 ≤ 2 * s1) (hlv : lv1 ≤ 50) (hC : Cs.length < 12) (hold : ∀ (i : Nat) (c : cl_T), Cs[i]? = some c → CLW Y w1 cs1 i c) (h0 : c0.1 < 5) (h1 : sm ≤ m) (h2 : m ≤ cs1) (h3 : ∃ k, k ≤ 51 ∧ CW w1 sm m k c0.2.1) (h4 : (m = cs1 ∧ c0.2.2 = fun _ => some 1) ∨ ∃ k, k ≤ 51 ∧ CW w1 m cs1 k c0.2.2) : RC b n s1 cs1 lv1 w1 (Cs ++ [c0]) (rowX Y Cs.length (nI (268 + c0.1)) (nI sm) (nI m) (nI cs1)) := by
  refine ⟨rowX_S hR, hs, hcs, hlv, by rw [List.length_append]; exact hC, by rw [rowX_4, List.length_append]; rfl, fun i c hi => ?_⟩
  by_cases hil : i < Cs.length
  · rw [List.getElem?_append_left hil] at hi
    refine RW_up (hold i c hi) (Nat.le_refl _) (fun _ _ => rfl) (fun m hm => ?_)
    rw [rowX_a, if_neg (by omega), if_neg (by omega), if_neg (by omega), if_neg (by omega)]
  · have hi2 : i = Cs.length := by
      have := (List.getElem?_eq_some_iff.mp hi).1
      rw [List.length_append] at this
      have : i < Cs.length + 1 := this
      omega
    subst hi2
    rw [List.getElem?_append_right (Nat.le_refl _), Nat.sub_self] at hi
    have hc : c0 = c := Option.some.inj hi
    subst hc
    refine ⟨h0, by rw [rowX_a, if_neg (by omega), if_neg (by omega), if_neg (by omega), if_pos ⟨rfl, rfl⟩], sm, m, cs1, by rw [rowX_a, if_neg (by omega), if_neg (by omega), if_pos ⟨rfl, rfl⟩], by rw [rowX_a, if_neg (by omega), if_pos ⟨rfl, rfl⟩], by rw [rowX_a, if_pos ⟨rfl, rfl⟩], h1, h2, Nat.le_refl _, h3, h4⟩
theorem RW_4 {i : Nat} {c : cl_T} {w' : Nat → Nat} {cs' : Nat} (h : CLW X w cs i c) (k : kp4 X Y) (hc : cs ≤ cs') (hw : ∀ i, i < cs → w' i = w i) : CLW Y w' cs' i c := RW_up h hc hw (fun m _ => (k.1.1 5 rfl).2 m)
theorem k_cl71 (hA : KA b n F 0) (hW : HW) {res : pk_T} (hp : kp5 X0 Y) (hR : RS b n s cs lv w Y) (hs : s ≤ n) (hcs : cs ≤ 2 * s) (hlv : lv ≤ 50) (h4 : cx_i Y 3 4 = nI Cs.length) (hC : Cs.length < 12) (hold : ∀ (i : Nat) (c : cl_T), Cs[i]? = some c → CLW Y w cs i c) (hh : h < 5) {k0 : Nat} (hk0 : k0 ≤ 51) (hsm : sm ≤ cs) (hf : CW w sm cs k0 f0) (hres : pkT b n F h f0 s lv = some res) : ms_V cd_X5_readClause none 4 (ms_Cl (dD 0 + 14)) (RCq b n Cs X0 t res) 71 [(0, .ref 3), (1, .int (nI (268 + h))), (2, .int (nI sm))] [] (ms_x Y t) := by
  have htl := tkc_lt (s := s) hR.1
  refine b_X5_readClause_71 (ms_oI_i xf_3_3 ?_)
  rw [hR.2.2.1]
  refine ms_oI_i xf_3_8 ?_
  rw [hR.2.1.2.2.1]
  unfold pkT at hres
  by_cases ht : tkc b n s = 273
  · rw [if_pos ht] at hres
    have gt := tok_gt hs (show tkc b n s ≠ 301 by omega)
    refine ms_yes (by rw [ht]; rfl) (mk_n0 (k_adv (d := dD 0 + 8) hW hR hs) (fun V hk hRV => ?_))
    have hrr : ∃ r1, pz b n F 0 0 fB (tkx b n s) lv = some r1 := by
      cases hz : pz b n F 0 0 fB (tkx b n s) lv with
      | none => rw [hz] at hres; cases hres
      | some r1 => exact ⟨r1, rfl⟩
    obtain ⟨r1, hr1⟩ := hrr
    rw [hr1] at hres
    refine rd_c1 (hA.1.2.2.2.2.2.2 V t fB (tkx b n s) cs lv 0 w r1 hr1 hRV gt.2 (by omega) hlv) (fun Z p e1 k1 t1 h6 => ?_) (fun a Z w' cs' m' e1 k1 R1 hsn l1 c1 m1 v1 cw => ?_)
    · subst e1
      have e2 : res = .inr p := (Option.some.inj hres).symm
      subst e2
      exact ms_yes rfl ⟨(by first | exact Or.inr rfl | exact Or.inl rfl | exact Or.inl trivial | exact Or.inr trivial | trivial), RC_fail (kp5_t hp (kp5_4 (kp4_t (kp4_3 hk) k1))) t1 h6⟩
    · subst e1
      have e2 : res = .inl ((h, f0, a.1), a.2.1, a.2.2) := (Option.some.inj hres).symm
      subst e2
      have kk : kp4 Y Z := kp4_t (kp4_3 hk) k1
      have q1 := cw.1
      refine ms_no (by decide) (k_row (j := Cs.length) (by rw [kk.2]; exact h4) hC R1.2.2.1 ?_)
      refine ⟨_, w', cs', kp5_t hp (kp5_t (kp5_4 kk) rowX_k), rfl, rfl, ?_⟩
      exact RC_row (c0 := (h, f0, a.1)) R1 hsn (by omega) v1 hC (fun i c hi => RW_4 (hold i c hi) kk (by omega) l1) hh hsm (by omega) ⟨k0, hk0, hf.loc (fun i _ i2 => l1 i i2)⟩ (Or.inr ⟨m', by omega, cw⟩)
  · rw [if_neg ht] at hres
    have e2 := Option.some.inj hres
    subst e2
    refine ms_no (tk_ne htl (v := 273) (by decide) ht) (k_row (j := Cs.length) h4 hC hR.2.2.1 ?_)
    refine ⟨_, w, cs, kp5_t hp rowX_k, rfl, rfl, ?_⟩
    exact RC_row (c0 := (h, f0, fU)) hR hs hcs hlv hC hold hh hsm (Nat.le_refl _) ⟨k0, hk0, hf⟩ (Or.inl ⟨rfl, rfl⟩)
theorem k_readClause (hA : KA b n F 0) (hW : HW) {res : pk_T} (h : RC b n s cs lv w Cs X) (hres : pk b n F s lv Cs.length = some res) : ms_H' (dD 0 + 15) 72 [.ref 3] (ms_x X t) (RCq b n Cs X t res) := by
  obtain ⟨hR, hs, hcs, hlv, hC, h4, hold⟩ := h
  have htl := tkc_lt (s := s) hR.1
  have hn := hR.1.1
  have h8 := hR.2.1.2.2.1
  unfold pk at hres
  refine mx_m (fun a b c => m_X5_readClause a b ⟨_, xo_3⟩ c) RCq_l (b_X5_readClause_0 (ms_oI_i xf_3_8 ?_))
  rw [h8]
  refine ms_oI_i xf_3_4 ?_
  rw [h4]
  by_cases hb : 12 ≤ Cs.length ∨ tkc b n s < 268 ∨ 272 < tkc b n s
  · rw [if_pos hb] at hres
    have e2 := Option.some.inj hres
    subst e2
    have out : ms_V cd_X5_readClause none 4 (ms_Cl (dD 0 + 14)) (RCq b n Cs X t (.inr (tkp b n s))) 28 [] [] (ms_x X t) := b_X5_readClause_28 ⟨(by first | exact Or.inr rfl | exact Or.inl rfl | exact Or.inl trivial | exact Or.inr trivial | trivial), RC_fail fr_0 hR.1 hR.2.1.1⟩
    refine ms_ite2 (fun _ => out) (fun z1 => ?_)
    refine ms_ite2 (fun _ => out) (fun z2 => ?_)
    refine ms_no (fun z3 => ?_) out
    rw [show (12 : Int32) = nI 12 from rfl, ms_nle (by omega) (by omega)] at z1
    rw [show (268 : Int32) = nI 268 from rfl, ms_nlt (by omega) (by omega)] at z2
    rw [show (272 : Int32) = nI 272 from rfl, ms_nle (by omega) (by omega)] at z3
    omega
  · rw [if_neg hb] at hres
    have gt := tok_gt hs (show tkc b n s ≠ 301 by omega)
    refine ms_no (fun z => by rw [show (12 : Int32) = nI 12 from rfl, ms_nle (by omega) (by omega)] at z; omega) (ms_no (fun z => by rw [show (268 : Int32) = nI 268 from rfl, ms_nlt (by omega) (by omega)] at z; omega) (ms_yes (by rw [show (272 : Int32) = nI 272 from rfl, ms_nle (by omega) (by omega)]; omega) (ms_oI_i xf_3_3 ?_)))
    rw [hR.2.2.1]
    refine mk_n0 (k_adv (d := dD 0 + 8) hW hR hs) (fun Y hk hRY => ?_)
    have kY := kp4_3 hk
    by_cases h272 : tkc b n s = 272
    · rw [if_pos h272] at hres
      refine ms_yes (by rw [h272]; rfl) ?_
      rw [show (300 : Int32) = nI 300 from rfl, show (0 : Int32) = nI 0 from rfl]
      refine ms_c0_i (k_emit (d := dD 0 + 13) hRY.2.2.1 (by omega)) ?_
      have h6 := RS_e (v := 300) hRY (by decide)
      have k6 : kp4 Y (cx_ui (cx_ua Y 4 cs (nI 300)) 3 3 (nI (cs + 1))) := em_k
      generalize cx_ui (cx_ua Y 4 cs (nI 300)) 3 3 (nI (cs + 1)) = Y2 at h6 k6 ⊢
      refine ms_c0_i (k_emit (d := dD 0 + 13) h6.2.2.1 (by omega)) ?_
      have h7 := RS_e (v := 0) h6 (by decide)
      have k7 : kp4 Y2 (cx_ui (cx_ua Y2 4 (cs + 1) (nI 0)) 3 3 (nI (cs + 1 + 1))) := em_k
      generalize cx_ui (cx_ua Y2 4 (cs + 1) (nI 0)) 3 3 (nI (cs + 1 + 1)) = Y3 at h7 k7 ⊢
      have kk : kp4 X Y3 := kp4_t kY (kp4_t k6 k7)
      have hcw : CW (fun i => if i = cs + 1 then 0 else if i = cs then 300 else w i) cs (cs + 2) 1 fB := by
        have := CW_num (w := fun i => if i = cs + 1 then 0 else if i = cs then 300 else w i) (s := cs) (by show (if cs = cs + 1 then 0 else if cs = cs then 300 else w cs) = 300; rw [if_neg (by omega), if_pos rfl])
        rw [if_pos rfl] at this
        exact this
      rw [h272]
      exact k_cl71 (h := 4) (sm := cs) (cs := cs + 2) (w := fun i => if i = cs + 1 then 0 else if i = cs then 300 else w i) hA hW (kp5_4 kk) h7 gt.2 (by omega) hlv (by rw [kk.2]; exact h4) (by omega) (fun i c hi => RW_4 (hold i c hi) kk (by omega) (fun i hi => by show (if i = cs + 1 then 0 else if i = cs then 300 else w i) = w i; rw [if_neg (by omega), if_neg (by omega)])) (by decide) (show 1 ≤ 51 by decide) (by omega) hcw hres
    · rw [if_neg h272] at hres
      refine ms_no (tk_ne htl (v := 272) (by decide) h272) ?_
      have hrr : ∃ r1, pz b n F 5 0 fB (tkx b n s) lv = some r1 := by
        cases hz : pz b n F 5 0 fB (tkx b n s) lv with
        | none => rw [hz] at hres; cases hres
        | some r1 => exact ⟨r1, rfl⟩
      obtain ⟨r1, hr1⟩ := hrr
      rw [hr1] at hres
      have hS := KN_mono (D2 := dD 0 + 14) (by omega) hA.1.2.2.1
      rw [show (0 : Int32) = nI 0 from rfl]
      refine rd_c1 (hS Y t fB (tkx b n s) cs lv 0 w r1 hr1 hRY gt.2 (by omega) hlv) (fun Z p e1 k1 t1 h6 => ?_) (fun a Z w' cs' m' e1 k1 R1 hsn l1 c1 m1 v1 cw => ?_)
      · subst e1
        have e2 : res = .inr p := (Option.some.inj hres).symm
        subst e2
        exact ms_yes rfl ⟨(by first | exact Or.inr rfl | exact Or.inl rfl | exact Or.inl trivial | exact Or.inr trivial | trivial), RC_fail (kp5_4 (kp4_t kY k1)) t1 h6⟩
      · subst e1
        have hq : pkT b n F (tkc b n s - 268) a.1 a.2.1 a.2.2 = some res := hres
        have kk : kp4 X Z := kp4_t kY k1
        have q1 := cw.1
        refine ms_no (by decide) ?_
        have hm := k_cl71 (t := t) (h := tkc b n s - 268) (sm := cs) hA hW (kp5_4 kk) R1 hsn (by omega) v1 (by rw [kk.2]; exact h4) (by omega) (fun i c hi => RW_4 (hold i c hi) kk (by omega) l1) (by omega) (k0 := m') (by omega) (by omega) cw hq
        rw [show 268 + (tkc b n s - 268) = tkc b n s by omega] at hm
        exact hm
end Cl
