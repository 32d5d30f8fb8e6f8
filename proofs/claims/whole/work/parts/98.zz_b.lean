/-! THE MODEL'S law(); written by wip/whole/mdl.py from zz_b.txt -/
def g156 (k : Nat) : Bool := decide (k = 15 ∨ k = 16)
def gLw (k : Nat) : Bool := decide (k = 0 ∨ (8 ≤ k ∧ k ≤ 24))
def gLv (k : Nat) : Bool := decide (k = 0 ∨ k = 3 ∨ (8 ≤ k ∧ k ≤ 24))
def g3r (k : Nat) : Bool := decide (k = 3)
def LWm (h : ms_S) (M : md_T) (t : ms_S) (xc : Nat) (res : Option (List cl_T ⊕ Nat)) (r : Option Value) (g' : ms_S) : Prop := match res with
  | none => r = some (.int (-5)) ∧ g' = ms_m h (md_tell (md_ui (md_ui M 0 0) 8 0) (-5)) t
  | some (.inr p) => ∃ N, md_fr gLw M N ∧ md_i N 0 = 0 ∧ md_i N 13 = nI p ∧ md_i N 8 = 0 ∧ r = some (.int (-6)) ∧ g' = ms_m h (md_tell N (-6)) t
  | some (.inl Cs) => ∃ N, md_fr gLv M N ∧ md_i N 0 = 0 ∧ md_i N 13 = -1 ∧ md_i N 8 = 0 ∧ (∀ m, m < 946 + 898 * xc → m ≠ 3 → md_a N 3 m = md_a M 3 m) ∧ md_a N 3 3 = nI (xc + 1) ∧ mt_t (md_a N 3) xc Cs ∧ r = some (.int (nI xc)) ∧ g' = ms_m h (md_tell N (nI xc)) t
section Lw
variable {b : Nat → Nat} {n s lv c k d p F cnt hd sm xc : Nat} {h t g : ms_S} {M N M0 : md_T} {o a : Nat → Nat} {Cs : List cl_T} {S : Nat → Bool}
theorem n_readClause {res : pk_T} (hR : RCm b n s lv c o a Cs M) (hres : pk b n F s lv Cs.length = some res) : ms_H' (d + 8) 197 [.ref h.length] (ms_m h M t) (gN gCl h M t (RCmq b n Cs res)) := by
  obtain ⟨hY, hC, h15, hold⟩ := hR
  have h14 := hY.2.2.2.1.1
  have hsn := hY.2.2.1
  unfold pk at hres
  refine mx_m (fun a b c => m_X9_readClause a b ⟨_, ms_m_0⟩ c) gN_l (b_X9_readClause_0 (ms_c1_i (n_headAt (d := d + 5) hY) ?_))
  have bad : res = .inr (tkp b n s) → gN gCl h M t (RCmq b n Cs res) none (ms_m h (md_ui (md_ui M 14 1) 13 (md_i M 9)) t) := by
    intro e
    subst e
    exact ⟨_, mr_i (mr_i mr_0 rfl) rfl, rfl, rfl, by rw [md_i_ne (by decide), md_i_at], by rw [md_i_at]; exact (TK_at hY.2.1).1⟩
  by_cases hh : 268 ≤ tkc b n s ∧ tkc b n s < 273
  · rw [if_pos hh]
    generalize hhd : tkc b n s - 268 = hd at hres ⊢
    have hd5 : hd < 5 := by omega
    have hne : ¬ nI hd = -1 := fun y => by
      have := congrArg Int32.toInt y
      rw [nI_toInt (by omega)] at this
      have e : (-1 : Int32).toInt = -1 := by decide
      rw [e] at this
      omega
    refine ms_no hne (ms_oI_i mm_f15 ?_)
    rw [h15]
    by_cases h12 : 12 ≤ Cs.length
    · rw [if_pos (Or.inl h12)] at hres
      refine ms_yes (by rw [show (12 : Int32) = nI 12 from rfl, ms_nle (by decide) (by omega)]; exact h12) (ms_c0_i (n_mustN (d := d + 6) h14) (ms_oI_i mm_f14 ?_))
      rw [md_i_ne (by decide), md_i_at]
      exact ms_no (by decide) (bad (Option.some.inj hres).symm)
    · rw [if_neg (by omega)] at hres
      have gt := tok_gt hsn (show tkc b n s ≠ 301 by omega)
      refine ms_no (fun z => by rw [show (12 : Int32) = nI 12 from rfl, ms_nle (by decide) (by omega)] at z; omega) (my_n0 (n_mustY (d := d + 4) hY.1 hY.2.1 hsn h14) (fun N f hK => ms_oI_i mm_f14 ?_))
      have hY1 := YS_next hY f hK (by show s ≤ tkx b n s; omega)
      rw [hY1.2.2.2.1.1]
      refine ms_yes rfl (ms_oI_i mm_f15 ?_)
      have i15 : md_i N 15 = nI Cs.length := by rw [(f 15 rfl).1]; exact h15
      rw [i15, show (8 : Int32) * nI Cs.length = nI (8 * Cs.length) from nI_mul 8 Cs.length]
      have fN : md_fr gCl M N := mr_s f (fun k hk => decide_eq_false (fun z => of_decide_eq_false hk (by omega)))
      have a16 : ∀ m, md_a N 16 m = md_a M 16 m := (f 16 rfl).2.2.1
      suffices H : ∀ r i N2, i + r = 8 → md_fr g16 N N2 → (∀ m, m < 8 * Cs.length → md_a N2 16 m = md_a N 16 m) → ms_V cd_X9_readClause none 0 (ms_Cl (d + 7)) (gN gCl h M t (RCmq b n Cs res)) 46 [(0, .ref h.length), (1, .int (nI hd)), (2, .int (nI (8 * Cs.length))), (3, .int (nI i))] [] (ms_m h N2 t) from H 8 0 N rfl mr_0 (fun _ _ => rfl)
      intro r
      induction r with
      | succ r ih =>
        intro i N2 hi f2 h2
        refine b_X9_readClause_46 (ms_no (fun z => by rw [show (8 : Int32) = nI 8 from rfl, ms_nle (by decide) (by omega)] at z; omega) (ms_oR_i mm_f16 ?_))
        rw [ms_p1, mm_w16]
        refine ⟨ms_in (by omega) (by decide), ?_⟩
        rw [ms_nc (by omega), show nI i + 1 = nI (i + 1) from ms_p1 1]
        exact ih (i + 1) _ (by omega) (mr_a f2 rfl) (fun m hm => by rw [md_a_ne (by omega)]; exact h2 m hm)
      | zero =>
        intro i N2 hi f2 h2
        have hi8 : i = 8 := by omega
        subst hi8
        refine b_X9_readClause_46 (ms_yes (by decide) (ms_oR_i mm_f16 ?_))
        rw [mm_w16]
        refine ⟨ms_in (by omega) (by decide), ?_⟩
        rw [ms_nc (by omega)]
        refine ms_oI_i mm_f15 ?_
        rw [show md_i (md_ua N2 16 (8 * Cs.length) (nI hd)) 15 = md_i N2 15 from rfl, (f2 15 rfl).1, i15, show nI Cs.length + 1 = nI (Cs.length + 1) from ms_p1 1, mm_p15]
        have hY2 := YS_f hY1 f2 g16_S
        have f3 : md_fr g156 N2 (md_ui (md_ua N2 16 (8 * Cs.length) (nI hd)) 15 (nI (Cs.length + 1))) := mr_i (mr_a mr_0 rfl) rfl
        have hY3 := YS_f hY2 f3 (fun k _ _ k1 k2 => decide_eq_false (by omega))
        have j15 : md_i (md_ui (md_ua N2 16 (8 * Cs.length) (nI hd)) 15 (nI (Cs.length + 1))) 15 = nI (Cs.length + 1) := md_i_at
        have j16 : ∀ m, md_a (md_ui (md_ua N2 16 (8 * Cs.length) (nI hd)) 15 (nI (Cs.length + 1))) 16 m = if m = 8 * Cs.length then nI hd else md_a N2 16 m := fun m => by
          rw [md_a_ui, md_a_ua]
          by_cases z : m = 8 * Cs.length
          · rw [if_pos (show 16 = 16 ∧ m = 8 * Cs.length from ⟨rfl, z⟩), if_pos z]
          · rw [if_neg (show ¬ (16 = 16 ∧ m = 8 * Cs.length) from fun y => z y.2), if_neg z]
        have fC : md_fr gCl M (md_ui (md_ua N2 16 (8 * Cs.length) (nI hd)) 15 (nI (Cs.length + 1))) := mr_i (mr_a (mr_t fN (mr_s f2 (fun k hk => decide_eq_false (fun z => of_decide_eq_false hk (by omega))))) rfl) rfl
        generalize md_ui (md_ua N2 16 (8 * Cs.length) (nI hd)) 15 (nI (Cs.length + 1)) = N3 at hY3 j15 j16 fC ⊢
        refine n_w16 (j := 3) (by omega) (by decide) ?_
        rw [hY3.2.2.2.2.2.2.1]
        have hY4 := YS_f hY3 (show md_fr g16 N3 (md_ua N3 16 (8 * Cs.length + 3) (nI c)) from mr_a mr_0 rfl) g16_S
        have k15 : md_i (md_ua N3 16 (8 * Cs.length + 3) (nI c)) 15 = nI (Cs.length + 1) := j15
        have k16 : ∀ m, md_a (md_ua N3 16 (8 * Cs.length + 3) (nI c)) 16 m = if m = 8 * Cs.length + 3 then nI c else if m = 8 * Cs.length then nI hd else md_a N2 16 m := fun m => by
          rw [md_a_ua]
          by_cases z : m = 8 * Cs.length + 3
          · rw [if_pos (show 16 = 16 ∧ m = 8 * Cs.length + 3 from ⟨rfl, z⟩), if_pos z]
          · rw [if_neg (show ¬ (16 = 16 ∧ m = 8 * Cs.length + 3) from fun y => z y.2), if_neg z, j16]
        have fC4 : md_fr gCl M (md_ua N3 16 (8 * Cs.length + 3) (nI c)) := mr_a fC rfl
        generalize md_ua N3 16 (8 * Cs.length + 3) (nI c) = N4 at hY4 k15 k16 fC4 ⊢
        have hold4 : ∀ (j : Nat) (x : cl_T), Cs[j]? = some x → CLm (md_a N4 16) o a c j x := fun j x hj => by
          have hjl := (List.getElem?_eq_some_iff.mp hj).1
          refine CLm_up (hold j x hj) (fun m hm => ?_) (Nat.le_refl _) (fun _ _ => ⟨rfl, rfl⟩)
          rw [k16, if_neg (by omega), if_neg (by omega), h2 m (by omega), a16]
        have hq0 : md_a N4 16 (8 * Cs.length) = nI hd := by rw [k16, if_neg (by omega), if_pos rfl]
        have hq3 : md_a N4 16 (8 * Cs.length + 3) = nI c := by rw [k16, if_pos rfl]
        by_cases h272 : tkc b n s = 272
        · rw [if_pos h272] at hres
          have hd4 : hd = 4 := by omega
          subst hd4
          refine ms_yes rfl ?_
          exact n_tailG (d := d) (F := F) (show Cs.length < 12 by omega) hY4 k15 hold4 hq0 (by decide) hq3 (Nat.le_refl _) (Or.inl ⟨rfl, rfl⟩) hres (fun N5 f5 hR5 => ⟨N5, mr_t fC4 f5, rfl, rfl, hR5⟩)
        · rw [if_neg h272] at hres
          refine ms_no (fun z => ?_) ?_
          · rw [show (4 : Int32) = nI 4 from rfl, ms_nI_eq (by omega) (by decide)] at z
            omega
          have hrr : ∃ r1, pz b n F 5 0 fB (tkx b n s) lv = some r1 := by
            cases hz : pz b n F 5 0 fB (tkx b n s) lv with
            | none => rw [hz] at hres; cases hres
            | some r1 => exact ⟨r1, rfl⟩
          obtain ⟨r1, hr1⟩ := hrr
          rw [hr1] at hres
          refine my_n0 (n_expr (d := d) (tst := 0) hr1 (Or.inr ⟨rfl, rfl⟩) hY4) (fun N5 f5 hE => ?_)
          have fC5 : md_fr gCl M N5 := mr_t fC4 (mr_s f5 (fun k hk => decide_eq_false (fun z => of_decide_eq_false hk (by omega))))
          cases r1 with
          | inr p =>
            have e2 : res = .inr p := (Option.some.inj hres).symm
            subst e2
            refine n_tailB (d := d) (show Cs.length < 12 by omega) hE.1 (fun N6 f6 => ⟨N6, mr_t fC5 (mr_s f6 (fun k hk => decide_eq_false (fun z => of_decide_eq_false hk (by omega)))), rfl, rfl, by rw [(f6 14 rfl).1]; exact hE.1, by rw [(f6 13 rfl).1]; exact hE.2⟩)
          | inl x =>
            have hres2 : pkT b n F hd x.1 x.2.1 x.2.2 = some res := hres
            obtain ⟨c', o', a', m, hY5, hag, hCM, hm⟩ := hE
            have h50 := hY5.2.2.2.2.2.1
            have hcc := hCM.1
            have e16 : ∀ m, md_a N5 16 m = md_a N4 16 m := (f5 16 rfl).2.2.1
            have e15 : md_i N5 15 = nI (Cs.length + 1) := (f5 15 rfl).1.trans k15
            refine n_tailG (d := d) (F := F) (show Cs.length < 12 by omega) hY5 e15 (fun j y hj => CLm_up (hold4 j y hj) (fun m _ => e16 m) (by omega) hag) (by rw [e16]; exact hq0) hd5 (by rw [e16]; exact hq3) (by omega) (Or.inr ⟨m, by omega, hCM⟩) hres2 (fun N6 f6 hR6 => ⟨N6, mr_t fC5 f6, rfl, rfl, hR6⟩)
  · rw [if_neg hh]
    rw [if_pos (by omega)] at hres
    refine ms_yes rfl (ms_c0_i (n_mustN (d := d + 6) h14) (ms_oI_i mm_f14 ?_))
    rw [md_i_ne (by decide), md_i_at]
    exact ms_no (by decide) (bad (Option.some.inj hres).symm)
end Lw
