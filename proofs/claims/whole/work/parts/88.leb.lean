/-! THE CLASS'S LEASTS: what is kept; settle; written by wip/whole/mdl.py from leb.txt -/
abbrev lb (A : ab_T) (p : Nat) (S : List Nat) : Nat × Nat := ck_b (q_s A p S) (2 ^ S.length)
def ins (a : Int) : List Int → List Int
  | [] => [a]
  | b :: r => if a < b then a :: b :: r else b :: ins a r
/-- what a choice of sources leaves of a place: the sum of the lifts, the looks that must be, how much dearer looks are -/
def nl_st (A : ab_T) (p : Nat) (S : List Nat) (x : Nat) (acc : Int × Nat × List Int) (j : Nat) : Int × Nat × List Int :=
  if ab_gh A (ab_en A (q_e A p j) 1) then (acc.1 + (min (q_lk A p j) (ck_m (q_lf A p S j) x S.length) : Nat), acc.2) else
  if ck_m (q_lf A p S j) x S.length = NW then (acc.1 + (q_lk A p j : Nat), acc.2.1 + 1, acc.2.2) else
  (acc.1 + (ck_m (q_lf A p S j) x S.length : Nat), acc.2.1, ins ((q_lk A p j : Int) - (ck_m (q_lf A p S j) x S.length : Nat)) acc.2.2)
def nl_f (A : ab_T) (p : Nat) (S : List Nat) (x : Nat) : Int × Nat × List Int := (List.range (ab_l A p).length).foldl (nl_st A p S x) ((ck_o (q_op A p S) x S.length : Nat), 0, [])
def nl_v (a : Int × Nat × List Int) (k : Nat) : Nat := if a.2.1 ≤ k ∧ k ≤ a.2.1 + a.2.2.length then (a.1 + (a.2.2.take (k - a.2.1)).sum).toNat else NW
/-- the least sum with just k looks, by the first so many choices -/
def lkr_n (A : ab_T) (p : Nat) (S : List Nat) (bound k : Nat) : Nat → Nat
  | 0 => NW
  | x + 1 => if q_s A p S x ≤ bound then min (lkr_n A p S bound k x) (nl_v (nl_f A p S x) k) else lkr_n A p S bound k x
def lkr (A : ab_T) (p : Nat) (S : List Nat) (k : Nat) : Nat := lkr_n A p S ((lb A p S).1 + 40) k (2 ^ S.length)
/-- settled for sources x -/
def SE (A : ab_T) (L : Nat) (X : cx_T) (p x : Nat) : Prop := cx_a X (L + 2) p = nI x ∧ cx_a X (L + 4) p = nI (lb A p (sl x)).1 ∧ cx_a X (L + 5) p = nI (lb A p (sl x)).2 ∧ ∀ j, j < (ab_l A p).length → cx_a X (L + 6) (q_e A p j) = or_I (q_or A p (sl x) (lb A p (sl x)).2 j)
def RE (A : ab_T) (L : Nat) (X : cx_T) (p x : Nat) : Prop := cx_a X (L + 3) p = nI x ∧ ∀ k, k < 13 → cx_a X (L + 7) (p * 13 + k) = nI (lkr A p (sl x) k)
/-- what is kept is right -/
def LC (A : ab_T) (L : Nat) (X : cx_T) : Prop := ∀ p, p < ab_p A → (cx_a X (L + 1) p = -1 ∨ cx_a X (L + 1) p = nI (obits A p)) ∧ (cx_a X (L + 2) p = -1 ∨ ∃ x, x < 2 ^ 16 ∧ SE A L X p x) ∧ (cx_a X (L + 3) p = -1 ∨ ∃ x, x < 2 ^ 16 ∧ RE A L X p x)
def fA (L c : Nat) : Bool := fC c || decide (L + 1 ≤ c ∧ c ≤ L + 8)
section Leb
variable {d b i j k n p o e f u v x y s r c L day : Nat} {X Y Z : cx_T} {t : ms_S} {A : ab_T} {S : List Nat} {K : Int32 → ms_S → Prop}
theorem sb_16 : sbits A p day < 2 ^ 16 := (sbt_ok 16 (Nat.le_refl _)).1
theorem sb_sl : sl (sbits A p day) = ab_src A p day := (sbt_ok 16 (Nat.le_refl _)).2.1
theorem sb_p (h : (sbits A p day).testBit o = true) : o < ab_p A := by
  have := (sbt_sub 16 h).1
  rw [Bool.and_eq_true] at this
  have := this.2
  unfold ab_s at this
  rw [Bool.and_eq_true, decide_eq_true_eq] at this
  exact this.1
theorem sb_9 : (sl (sbits A p day)).length ≤ 9 := by
  rw [sb_sl]
  unfold ab_src
  rw [List.length_take]
  omega
theorem fC_A : ∀ c, fA L c = false → fC c = false := fun c hc => (Bool.or_eq_false_iff.mp hc).1
theorem fL_A : ∀ c, fA L c = false → fL c = false := fun c hc => fL_C c (fC_A c hc)
theorem fO_A : ∀ c, fA L c = false → fO L c = false := fun c hc => by
  unfold fO
  rw [fL_A c hc, decide_eq_false (show ¬ c = L + 1 by
    have := of_decide_eq_false (Bool.or_eq_false_iff.mp hc).2
    omega)]
  rfl
theorem fRc_A : ∀ c, fA L c = false → fRc (L + 6) c = false := fun c hc => by
  unfold fRc
  rw [fR_C c (fC_A c hc), decide_eq_false (show ¬ c = L + 6 by
    have := of_decide_eq_false (Bool.or_eq_false_iff.mp hc).2
    omega)]
  rfl
theorem fA_in (h : L + 1 ≤ c ∧ c ≤ L + 8) : fA L c = true := by
  unfold fA
  rw [decide_eq_true h, Bool.or_true]
theorem fC_no (hL : LO L b) (h : L + 1 ≤ c ∧ c ≤ L + 8) : fC c = false := decide_eq_false (by have := hL.is; omega)
theorem SE_eq (h : SE A L X p x) (h2 : cx_a Y (L + 2) p = cx_a X (L + 2) p) (h4 : cx_a Y (L + 4) p = cx_a X (L + 4) p) (h5 : cx_a Y (L + 5) p = cx_a X (L + 5) p) (h6 : ∀ j, j < (ab_l A p).length → cx_a Y (L + 6) (q_e A p j) = cx_a X (L + 6) (q_e A p j)) : SE A L Y p x := by
  refine ⟨by rw [h2]; exact h.1, by rw [h4]; exact h.2.1, by rw [h5]; exact h.2.2.1, fun j hj => by rw [h6 j hj]; exact h.2.2.2 j hj⟩
theorem nI_16 (h1 : x < 2 ^ 16) (h2 : y < 2 ^ 16) (h : nI x = nI y) : x = y := by
  rwa [ms_nI_eq (by omega) (by omega)] at h
theorem nI_m1 (h1 : x < 2 ^ 16) : nI x ≠ -1 := by
  intro z
  have := ms_nI_0 (n := x) (by omega)
  rw [z] at this
  exact absurd this (by decide)
theorem lb_le (hm : S.length ≤ 9) (hn : (ab_l A p).length ≤ 12) : (lb A p S).1 ≤ NW ∧ (lb A p S).2 < 2 ^ S.length := ⟨(ck_b_le (fun _ => Nat.le_trans (q_s_le hm hn) (by decide)) _).1, ck_b_lt _ (Nat.two_pow_pos _)⟩
theorem LC_keep (hL : LO L b) (f : cx_fr fC X Y) (h : LC A L X) : LC A L Y := by
  have e : ∀ c, L + 1 ≤ c ∧ c ≤ L + 8 → ∀ n, cx_a Y c n = cx_a X c n := fun c hc n => (f.1 c (fC_no hL hc)).2 n
  intro p hp
  obtain ⟨h1, h2, h3⟩ := h p hp
  refine ⟨?_, ?_, ?_⟩
  · rw [e _ (by omega)]; exact h1
  · rw [e _ (by omega)]
    refine h2.imp id (fun ⟨x, hx, hs⟩ => ⟨x, hx, SE_eq hs (e _ (by omega) _) (e _ (by omega) _) (e _ (by omega) _) (fun j _ => e _ (by omega) _)⟩)
  · rw [e _ (by omega)]
    refine h3.imp id (fun ⟨x, hx, r1, r2⟩ => ⟨x, hx, by rw [e _ (by omega)]; exact r1, fun k hk => by rw [e _ (by omega)]; exact r2 k hk⟩)
theorem k_settle (h : CX A b X t) (hL : LO L b) (hC : LC A L X) (hi : i ≤ s) (hs : s ≤ ab_p A) (hd : day < 2 ^ 31) : ms_H' (d + 7) 54 [.ref L, .int (nI i), .int (nI s), .int (nI day)] (ms_x X t) (fN (fA L) X t (fun Y => LC A L Y ∧ ∀ p, i ≤ p → p < s → ab_s A p day = true → SE A L Y p (sbits A p day))) := by
  have hw := h.w.1.2.1
  have hLr := hL.is
  refine mx_m (fun a b c => m_X3_settle a b (xL_rc hL) c) fN_l (b_X3_settle_0 ?_)
  have done : ∀ p Y, s ≤ p → p < 2 ^ 31 → cx_fr (fA L) X Y → LC A L Y → (∀ q, i ≤ q → q < p → q < s → ab_s A q day = true → SE A L Y q (sbits A q day)) → ms_V cd_X3_settle none 0 (ms_Cl (d + 6)) (fN (fA L) X t (fun Y => LC A L Y ∧ ∀ p, i ≤ p → p < s → ab_s A p day = true → SE A L Y p (sbits A p day))) 3 [(0, .ref L), (2, .int (nI s)), (3, .int (nI day)), (4, .int (nI p))] [] (ms_x Y t) := by
    intro p Y hp hp2 hf hc ha
    exact b_X3_settle_3 (ms_yes ((ms_nle (by omega) (by omega)).mpr hp) ⟨Y, hf, rfl, rfl, hc, fun q h1 h2 h3 => ha q h1 (by omega) h2 h3⟩)
  suffices H : ∀ r p Y, p + r = s → cx_fr (fA L) X Y → LC A L Y → (∀ q, i ≤ q → q < p → q < s → ab_s A q day = true → SE A L Y q (sbits A q day)) → ms_V cd_X3_settle none 0 (ms_Cl (d + 6)) (fN (fA L) X t (fun Y => LC A L Y ∧ ∀ p, i ≤ p → p < s → ab_s A p day = true → SE A L Y p (sbits A p day))) 3 [(0, .ref L), (2, .int (nI s)), (3, .int (nI day)), (4, .int (nI p))] [] (ms_x Y t) by
    exact H (s - i) i X (by omega) fr_0 hC (fun q h1 h2 => by omega)
  intro r
  induction r with
  | zero =>
    intro p Y hp hf hc ha
    exact done p Y (by omega) (by omega) hf hc ha
  | succ r ih =>
    intro p Y hp hf hc ha
    have hY := h.fr hf
    have hpa : p < ab_p A := by omega
    have hn := h.w.2.2.2.2.2 p
    refine b_X3_settle_3 (ms_no (fun z => by rw [ms_nle (by omega) (by omega)] at z; omega) (ms_oR_i (xL_0 hL) ?_))
    rw [show nI p + 1 = nI (p + 1) from ms_p1 1]
    refine ms_c1_i (k_isSeen hY (by omega) hd) (ms_ifT (fun hg => ?_) (fun hg => ?_))
    · refine ih (p + 1) Y (by omega) hf hc (fun q h1 h2 h3 h4 => ?_)
      by_cases hq : q = p
      · rw [hq, hg] at h4
        cases h4
      · exact ha q h1 (by omega) h3 h4
    · obtain ⟨c1, c2, c3⟩ := hc p hpa
      refine mx_v1 (k_sourcesOf hY hL hpa hd c1) (fun Z v fz ⟨e1, e2, e3⟩ => ?_)
      rw [e1]
      have hfZ : cx_fr (fA L) X Z := fr_t hf (fr_s fz fO_A)
      have eZ : ∀ c, L + 2 ≤ c ∧ c ≤ L + 8 → ∀ n, cx_a Z c n = cx_a Y c n := fun c hc n => (fz.1 c (by
        unfold fO
        rw [fL_C c (fC_no hL (by omega)), decide_eq_false (by omega)]
        rfl)).2 n
      have hcZ : LC A L Z := by
        intro q hq
        obtain ⟨g1, g2, g3⟩ := hc q hq
        refine ⟨?_, ?_, ?_⟩
        · by_cases hqp : q = p
          · rw [hqp]; exact Or.inr e2
          · rw [e3 q hqp]; exact g1
        · rw [eZ _ (by omega)]
          refine g2.imp id (fun ⟨x, hx, hs⟩ => ⟨x, hx, SE_eq hs (eZ _ (by omega) _) (eZ _ (by omega) _) (eZ _ (by omega) _) (fun j _ => eZ _ (by omega) _)⟩)
        · rw [eZ _ (by omega)]
          refine g3.imp id (fun ⟨x, hx, r1, r2⟩ => ⟨x, hx, by rw [eZ _ (by omega)]; exact r1, fun k hk => by rw [eZ _ (by omega)]; exact r2 k hk⟩)
      have haZ : ∀ q, i ≤ q → q < p → q < s → ab_s A q day = true → SE A L Z q (sbits A q day) := fun q h1 h2 h3 h4 => SE_eq (ha q h1 h2 h3 h4) (eZ _ (by omega) _) (eZ _ (by omega) _) (eZ _ (by omega) _) (fun j _ => eZ _ (by omega) _)
      refine ms_oR_i (xL_4 hL) ?_
      rw [cA_r (cA_i2 hL)]
      refine ⟨ms_in (by omega) (by decide), ?_⟩
      rw [ms_nc (by omega)]
      have hsb := sb_16 (A := A) (p := p) (day := day)
      refine ms_ite2 (fun z => ?_) (fun z => ?_)
      · refine ih (p + 1) Z (by omega) hfZ hcZ (fun q h1 h2 h3 h4 => ?_)
        by_cases hq : q = p
        · subst hq
          obtain ⟨g1, g2, g3⟩ := hcZ q hpa
          rcases g2 with g2 | ⟨x, hx, g2⟩
          · rw [g2] at z
            exact absurd z.symm (nI_m1 hsb)
          · have hxe : x = sbits A q day := nI_16 hx hsb (by rw [← g2.1, z])
            rw [← hxe]
            exact g2
        · exact haZ q h1 (by omega) h3 h4
      · have hZ := h.fr hfZ
        refine ms_oR_i (xL_2 hL) (ms_oR_i (xL_0 hL) ?_)
        refine mx_n0 (k_load hZ hpa hsb (fun o ho => sb_p ho) sb_9) (fun W fw hck => ?_)
        refine ms_oR_i (xL_2 hL) (mx_n0 (k_search hck hn) (fun V fv ⟨hck2, h13, h14⟩ => ?_))
        refine ms_oR_i (xL_2 hL) (ms_oR_i (xL_8 hL) ?_)
        have hfV : cx_fr (fA L) X V := fr_t hfZ (fr_s (fr_t fw fv) fC_A)
        have hcV : LC A L V := LC_keep hL (fr_t fw fv) hcZ
        have eV : ∀ c, L + 1 ≤ c ∧ c ≤ L + 8 → ∀ n, cx_a V c n = cx_a Z c n := fun c hc n => ((fr_t fw fv).1 c (fC_no hL hc)).2 n
        obtain ⟨hb1, hb2⟩ := lb_le (A := A) (p := p) (S := sl (sbits A p day)) sb_9 hn
        refine mx_n0 (k_tellOrigins (h.fr hfV) hck2 hpa hb2 h14 (cA_i6 hL) (by omega)) (fun U fu ⟨ho1, ho2⟩ => ?_)
        have f15 : fRc (L + 6) 15 = false := by unfold fRc; rw [decide_eq_false (by omega)]; rfl
        have hfU : cx_fr (fA L) X U := fr_t hfV (fr_s fu fRc_A)
        have eU : ∀ c, L + 1 ≤ c ∧ c ≤ L + 8 → c ≠ L + 6 → ∀ n, cx_a U c n = cx_a V c n := fun c hc hne n => (fu.1 c (by
          unfold fRc
          rw [fR_C c (fC_no hL hc), decide_eq_false hne]
          rfl)).2 n
        refine ms_oR_i (xL_6 hL) (ms_oR_i (xL_2 hL) (ms_oI_i xf_15_13 ?_))
        rw [(fu.1 15 f15).1, h13, cA_w (cA_i4 hL)]
        refine ⟨ms_in (by omega) (by decide), ?_⟩
        rw [ms_nc (by omega)]
        refine ms_oR_i (xL_7 hL) (ms_oR_i (xL_2 hL) (ms_oI_i xf_15_14 ?_))
        rw [show cx_i (cx_ua U (L + 4) p (nI (lb A p (sl (sbits A p day))).1)) 15 14 = cx_i U 15 14 from rfl, (fu.1 15 f15).1, h14, cA_w (cA_i5 hL)]
        refine ⟨ms_in (by omega) (by decide), ?_⟩
        rw [ms_nc (by omega)]
        refine ms_oR_i (xL_4 hL) ?_
        rw [cA_w (cA_i2 hL)]
        refine ⟨ms_in (by omega) (by decide), ?_⟩
        rw [ms_nc (by omega)]
        have key : ∀ c n, cx_a (cx_ua (cx_ua (cx_ua U (L + 4) p (nI (lb A p (sl (sbits A p day))).1)) (L + 5) p (nI (lb A p (sl (sbits A p day))).2)) (L + 2) p (nI (sbits A p day))) c n = if c = L + 2 ∧ n = p then nI (sbits A p day) else if c = L + 5 ∧ n = p then nI (lb A p (sl (sbits A p day))).2 else if c = L + 4 ∧ n = p then nI (lb A p (sl (sbits A p day))).1 else cx_a U c n := by
          intro c n
          rw [cx_a_ua, cx_a_ua, cx_a_ua]
        have same : ∀ q, q ≠ p → ∀ x, SE A L V q x → SE A L (cx_ua (cx_ua (cx_ua U (L + 4) p (nI (lb A p (sl (sbits A p day))).1)) (L + 5) p (nI (lb A p (sl (sbits A p day))).2)) (L + 2) p (nI (sbits A p day))) q x := by
          intro q hq x hx
          refine SE_eq hx ?_ ?_ ?_ (fun j hj => ?_)
          · rw [key, if_neg (fun z => hq z.2), if_neg (by omega), if_neg (by omega), eU _ (by omega) (by omega)]
          · rw [key, if_neg (by omega), if_neg (by omega), if_neg (fun z => hq z.2), eU _ (by omega) (by omega)]
          · rw [key, if_neg (by omega), if_neg (fun z => hq z.2), if_neg (by omega), eU _ (by omega) (by omega)]
          · rw [key, if_neg (by omega), if_neg (by omega), if_neg (by omega)]
            refine ho2 _ (fun j2 hj2 hz => hq ?_)
            have a1 := (q_e_lt hj).2
            have a2 := (q_e_lt hj2).2
            rw [← a1, ← a2, hz]
        have this : SE A L (cx_ua (cx_ua (cx_ua U (L + 4) p (nI (lb A p (sl (sbits A p day))).1)) (L + 5) p (nI (lb A p (sl (sbits A p day))).2)) (L + 2) p (nI (sbits A p day))) p (sbits A p day) := by
          refine ⟨?_, ?_, ?_, fun j hj => ?_⟩
          · rw [key, if_pos ⟨rfl, rfl⟩]
          · rw [key, if_neg (by omega), if_neg (by omega), if_pos ⟨rfl, rfl⟩]
          · rw [key, if_neg (by omega), if_pos ⟨rfl, rfl⟩]
          · rw [key, if_neg (by omega), if_neg (by omega), if_neg (by omega)]
            exact ho1 j hj
        refine ih (p + 1) _ (by omega) (fr_a (fr_a (fr_a hfU (fA_in (by omega))) (fA_in (by omega))) (fA_in (by omega))) (fun q hq => ?_) (fun q h1 h2 h3 h4 => ?_)
        · obtain ⟨g1, g2, g3⟩ := hcV q hq
          refine ⟨?_, ?_, ?_⟩
          · rw [key, if_neg (by omega), if_neg (by omega), if_neg (by omega), eU _ (by omega) (by omega)]
            exact g1
          · by_cases hqp : q = p
            · subst hqp
              exact Or.inr ⟨_, hsb, this⟩
            · refine g2.imp (fun g => ?_) (fun ⟨x, hx, g⟩ => ⟨x, hx, same q hqp x g⟩)
              rw [key, if_neg (fun z => hqp z.2), if_neg (by omega), if_neg (by omega), eU _ (by omega) (by omega)]
              exact g
          · rw [key, if_neg (by omega), if_neg (by omega), if_neg (by omega), eU _ (by omega) (by omega)]
            refine g3.imp id (fun ⟨x, hx, r1, r2⟩ => ⟨x, hx, ?_, fun k hk => ?_⟩)
            · rw [key, if_neg (by omega), if_neg (by omega), if_neg (by omega), eU _ (by omega) (by omega)]
              exact r1
            · rw [key, if_neg (by omega), if_neg (by omega), if_neg (by omega), eU _ (by omega) (by omega)]
              exact r2 k hk
        · by_cases hqp : q = p
          · subst hqp
            exact this
          · refine same q hqp _ (SE_eq (haZ q h1 (by omega) h3 h4) (eV _ (by omega) _) (eV _ (by omega) _) (eV _ (by omega) _) (fun j _ => eV _ (by omega) _))
end Leb
