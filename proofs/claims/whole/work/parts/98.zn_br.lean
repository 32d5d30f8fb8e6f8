/-! THE CLASS'S Reader: what reading methods give each other; written by wip/whole/mdl.py from zn_br.txt -/
section Br2
variable {b w : Nat → Nat} {n s e f k c d D p cs lv sl j dp y : Nat} {X Y Z : cx_T} {t g : ms_S} {res : pr_T} {as : List Value} {f0 : dn_T}
theorem rd_c1 {K : Int32 → ms_S → Prop} (hh : ms_H' d y as (ms_x X t) (RDq b n sl cs lv w X t res)) (hN : ∀ Y p, res = .inr p → kp4 X Y → TC Y b n → cx_i Y 3 6 = nI p → K 0 (ms_x Y t)) (hY : ∀ a Y w' cs' m, res = .inl a → kp4 X Y → RS b n a.2.1 cs' a.2.2 w' Y → a.2.1 ≤ n → (∀ i, i < cs → w' i = w i) → cs' + sl ≤ 2 * a.2.1 → m + lv ≤ a.2.2 → a.2.2 ≤ 50 → CW w' cs cs' m a.1 → K 1 (ms_x Y t)) : ms_c1 (ms_Cl d y as (ms_x X t)) K := by
  obtain ⟨r, g', hr, hc⟩ := hh
  cases res with
  | inr p =>
    obtain ⟨Y, h1, e1, e2, h2, h3⟩ := hr
    rw [e1, e2] at hc
    exact ms_c1_i hc (hN Y p rfl h1 h2 h3)
  | inl a =>
    obtain ⟨Y, w', cs', m, h1, e1, e2, h2, h8, h3, h4, h5, h6, h7⟩ := hr
    rw [e1, e2] at hc
    exact ms_c1_i hc (hY a Y w' cs' m rfl h1 h2 h8 h3 h4 h5 h6 h7)
/-- what is known of a reading method by an induction -/
def KN (b : Nat → Nat) (n F k y D dp : Nat) : Prop := ∀ (X : cx_T) (t : ms_S) (f0 : dn_T) (s cs lv sl : Nat) (w : Nat → Nat) (res : pr_T), pz b n F k dp f0 s lv = some res → RS b n s cs lv w X → s ≤ n → cs + sl ≤ 2 * s → lv ≤ 50 → ms_H' D y [.ref 3, .int (nI dp)] (ms_x X t) (RDq b n sl cs lv w X t res)
theorem RDq_r (hY : kp4 X Y) {r : Option Value} {g' : ms_S} (h : RDq b n sl cs lv w Y t res r g') : RDq b n sl cs lv w X t res r g' := by
  cases res with
  | inr p =>
    obtain ⟨Z, h1, h2⟩ := h
    exact ⟨Z, kp4_t hY h1, h2⟩
  | inl a =>
    obtain ⟨Z, w', cs', m, h1, h2⟩ := h
    exact ⟨Z, w', cs', m, kp4_t hY h1, h2⟩
theorem pzB_i {r : Option pr_T} {q : dn_T → Nat → Nat → Option pr_T} (h : pzB r q = some res) : (∃ p, r = some (.inr p) ∧ res = .inr p) ∨ ∃ a, r = some (.inl a) ∧ q a.1 a.2.1 a.2.2 = some res := by
  cases r with
  | none => cases h
  | some x =>
    cases x with
    | inr p => exact Or.inl ⟨p, rfl, (Option.some.inj h).symm⟩
    | inl a => exact Or.inr ⟨a, rfl, h⟩
theorem tkc_lt (h : TC X b n) : tkc b n s < 2 ^ 31 := by
  unfold tkc
  by_cases h1 : n ≤ skp b n s
  · rw [tok_e h1]
    show 301 < 2 ^ 31
    decide
  · have h1 : skp b n s < n := by omega
    cases h2 : ltr (b (skp b n s)) with
    | true =>
      rw [tok_w h1 h2]
      have := (wd_ge (l := byts b (skp b n s) (run ltr b n n (skp b n s + 1)))).2
      show wd _ < 2 ^ 31
      omega
    | false =>
      cases h3 : dgt (b (skp b n s)) with
      | true =>
        rw [tok_d h1 h2 h3]
        show 300 < 2 ^ 31
        decide
      | false =>
        rw [tok_s h1 h2 h3]
        have := (h.2.2 _ h1).2
        show b (skp b n s) < 2 ^ 31
        omega
/-- a square bracket -/
theorem k_brS (hW : HW) (hS : KN b n f 5 78 (d + 6) (dp + 1)) (h : RS b n s cs lv w X) (hs : s ≤ n) (hcs : cs + sl ≤ 2 * s) (hlv : lv ≤ 50) (htk : tkc b n s = 91) (hdp : dp < 8) (hres : pzB (pz b n f 5 (dp + 1) f0 (tkx b n s) lv) (fun g s1 lv1 => if tkc b n s1 = 93 then some (.inl (g, tkx b n s1, lv1)) else some (.inr (tkp b n s1))) = some res) : ms_H' (d + 7) 76 [.ref 3, .int (nI dp)] (ms_x X t) (RDq b n sl cs lv w X t res) := by
  have gt := tok_gt hs (show tkc b n s ≠ 301 by omega)
  refine mx_m (fun a b c => m_X5_readBracket a b ⟨_, xo_3⟩ c) RDq_l (b_X5_readBracket_0 ?_)
  refine ms_yes (by rw [show (8 : Int32) = nI 8 from rfl, ms_nlt (by omega) (by omega)]; exact hdp) (ms_oI_i xf_3_8 ?_)
  rw [h.2.1.2.2.1, htk]
  refine ms_yes rfl (mk_n0 (k_adv (d := d) hW h hs) (fun Y hk hR => ms_no (by decide) ?_))
  rw [show nI dp + 1 = nI (dp + 1) from ms_p1 1]
  have hkY := kp4_3 hk
  have rr : ∃ r1, pz b n f 5 (dp + 1) f0 (tkx b n s) lv = some r1 := by
    rcases pzB_i hres with ⟨p, e, _⟩ | ⟨a, e, _⟩
    · exact ⟨_, e⟩
    · exact ⟨_, e⟩
  obtain ⟨r1, hr1⟩ := rr
  rw [hr1] at hres
  refine rd_c1 (hS Y t f0 (tkx b n s) cs lv sl w r1 hr1 hR gt.2 (by omega) hlv) (fun Z p e1 k1 t1 h6 => ?_) (fun a Z w' cs' m e1 k1 R1 hsn l1 c1 m1 v1 cw => ?_)
  · subst e1
    have e2 : res = .inr p := (Option.some.inj hres).symm
    subst e2
    exact ms_yes rfl ⟨(by first | exact Or.inr rfl | exact Or.inl rfl | exact Or.inl trivial | exact Or.inr trivial | trivial), Z, kp4_t hkY k1, rfl, rfl, t1, h6⟩
  · subst e1
    have hq : (if tkc b n a.2.1 = 93 then some (.inl (a.1, tkx b n a.2.1, a.2.2)) else some (.inr (tkp b n a.2.1))) = some res := hres
    refine ms_no (by decide) (ms_oI_i xf_3_8 ?_)
    rw [R1.2.1.2.2.1]
    refine ms_no (by decide) ?_
    refine ms_ite2 (fun z => ?_) (fun z => ?_) <;> rw [show (93 : Int32) = nI 93 from rfl] at z
    · have htc : tkc b n a.2.1 < 2 ^ 31 := tkc_lt R1.1
      rw [ms_nI_eq htc (by decide)] at z
      rw [if_pos z] at hq
      have e2 := Option.some.inj hq
      subst e2
      have gt2 := tok_gt hsn (show tkc b n a.2.1 ≠ 301 by omega)
      exact mk_n0 (k_adv (d := d) hW R1 hsn) (fun V hk2 hR2 => ⟨(by first | exact Or.inr rfl | exact Or.inl rfl | exact Or.inl trivial | exact Or.inr trivial | trivial), V, w', cs', m, kp4_t hkY (kp4_t k1 (kp4_3 hk2)), rfl, rfl, hR2, gt2.2, l1, by show cs' + sl ≤ 2 * tkx b n a.2.1; omega, m1, v1, cw⟩)
    · have htc : tkc b n a.2.1 < 2 ^ 31 := tkc_lt R1.1
      rw [ms_nI_eq htc (by decide)] at z
      rw [if_neg z] at hq
      have e2 := Option.some.inj hq
      subst e2
      exact ⟨(by first | exact Or.inr rfl | exact Or.inl rfl | exact Or.inl trivial | exact Or.inr trivial | trivial), Z, kp4_t hkY k1, rfl, rfl, R1.1, R1.2.1.1⟩
end Br2
