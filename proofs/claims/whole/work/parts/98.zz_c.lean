/-! THE MODEL'S law(), to its end; written by wip/whole/mdl.py from zz_c.txt -/
def gBg (k : Nat) : Bool := decide (9 ≤ k ∧ k ≤ 14)
section Lx
variable {b : Nat → Nat} {n s lv c k d p F cnt hd sm xc : Nat} {h t g : ms_S} {M N M0 : md_T} {o a : Nat → Nat} {Cs : List cl_T} {S : Nat → Bool} {f : dn_T}
theorem z_is_of (hc : CM o a s n k f) (hk : k ≤ 400) : z_is o a s n f := by
  intro env hv
  have h0 := hc.all hk env hv
  cases hf : f env with
  | none => rw [hf] at h0; exact h0
  | some v => rw [hf] at h0; exact ⟨[v], h0, rfl⟩
theorem z_is_B : z_is o a s s fB := by
  intro env hv
  show ∃ l, z_ev o a env s s [] (some l) ∧ z_bot l = (nI 0).toInt64
  exact ⟨[], z_ev_end (Nat.le_refl _), by decide⟩
theorem tk_301 (hK : TK b n s M) (hb : ∀ k, k < n → b k < 256) : (tkc b n s = 301 → md_i M 11 = 0) ∧ (¬ tkc b n s = 301 → ¬ md_i M 11 = 0) := by
  obtain ⟨_, hc⟩ := hK
  unfold tkc
  rcases hc with ⟨h1, h2, _⟩ | ⟨h1, h2, h3, _⟩ | ⟨h1, h2, h3, h4, _⟩ | ⟨h1, h2, h3, h4, _⟩
  · rw [tok_e h1]
    exact ⟨fun _ => h2, fun z => absurd rfl z⟩
  · rw [tok_w h1 h2, h3]
    have h4 := wd_no (l := byts b (skp b n s) (run ltr b n n (skp b n s + 1)))
    refine ⟨fun z => ?_, fun _ => by decide⟩
    have z : wd (byts b (skp b n s) (run ltr b n n (skp b n s + 1))) = 301 := z
    omega
  · rw [tok_d h1 h2 h3, h4]
    exact ⟨(fun z => by cases z), (fun _ => by decide)⟩
  · rw [tok_s h1 h2 h3, h4]
    refine ⟨fun z => ?_, fun _ => by decide⟩
    have z : b (skp b n s) = 301 := z
    have := hb _ h1
    omega
/-- a row more: the text's -/
theorem n_law175 {Qf : Option Value → ms_S → Prop} (h17 : md_i N 17 = nI c) (hc : c ≤ 400) (hxc : xc < 20) (h3 : md_a N 3 3 = nI xc) (hQ : ∀ N2, md_fr g3r N N2 → (∀ m, m < 946 + 898 * xc + 98 → m ≠ 3 → md_a N2 3 m = md_a N 3 m) → md_a N2 3 3 = nI (xc + 1) → (∀ i, i < c → md_a N2 3 (946 + 898 * xc + 98 + 2 * i) = md_a N 18 i ∧ md_a N2 3 (946 + 898 * xc + 98 + 2 * i + 1) = md_a N 19 i) → Qf (some (.int (nI xc))) (ms_m h (md_tell N2 (nI xc)) t)) : ms_V cd_X9_law none 1 (ms_Cl (d + 1)) Qf 175 [(0, .ref h.length), (1, .int (nI (946 + 898 * xc))), (2, .int (nI 0))] [] (ms_m h N t) := by
  suffices H : ∀ r i N2, i + r = c → md_fr g3r N N2 → (∀ m, m < 946 + 898 * xc + 98 → md_a N2 3 m = md_a N 3 m) → (∀ j, j < i → md_a N2 3 (946 + 898 * xc + 98 + 2 * j) = md_a N 18 j ∧ md_a N2 3 (946 + 898 * xc + 98 + 2 * j + 1) = md_a N 19 j) → ms_V cd_X9_law none 1 (ms_Cl (d + 1)) Qf 175 [(0, .ref h.length), (1, .int (nI (946 + 898 * xc))), (2, .int (nI i))] [] (ms_m h N2 t) from H c 0 N (by omega) mr_0 (fun _ _ => rfl) (fun j hj => absurd hj (Nat.not_lt_zero _))
  intro r
  induction r with
  | zero =>
    intro i N2 hi f1 h1 h2
    have hic : i = c := by omega
    subst hic
    refine b_X9_law_175 (ms_oI_i mm_f17 ?_)
    rw [(f1 17 rfl).1, h17]
    refine ms_yes (Int32.le_refl _) (ms_oR_i mm_f3 ?_)
    rw [show (3 : Int32) = nI 3 from rfl]
    have e3 : md_a N2 3 3 = nI xc := by rw [h1 3 (by omega)]; exact h3
    refine n_rd (k := 3) (v := nI xc) (by decide) e3 ?_
    rw [mm_w3]
    refine ⟨ms_in (by decide) (by decide), ?_⟩
    rw [ms_nc (by decide), show nI xc + 1 = nI (xc + 1) from ms_p1 1]
    refine ms_oR_i mm_f3 (n_rd (k := 3) (v := nI (xc + 1)) (by decide) (by rw [md_a_at]) ?_)
    rw [show nI (xc + 1) - 1 = nI xc from ms_nI_m1]
    have a3 : ∀ m, m ≠ 3 → md_a (md_ua N2 3 3 (nI (xc + 1))) 3 m = md_a N2 3 m := fun m hm => md_a_ne hm
    refine ms_c1_i (c9_tell (Or.inl (ms_nI_0 (n := xc) (by omega)))) (hQ _ (mr_a f1 rfl) (fun m hm hm3 => by rw [a3 m hm3]; exact h1 m hm) md_a_at (fun j hj => by rw [a3 _ (by omega), a3 _ (by omega)]; exact h2 j hj))
  | succ r ih =>
    intro i N2 hi f1 h1 h2
    refine b_X9_law_175 (ms_oI_i mm_f17 ?_)
    rw [(f1 17 rfl).1, h17]
    refine ms_no (fun z => by rw [ms_nle (by omega) (by omega)] at z; omega) (ms_oR_i mm_f3 (ms_oR_i mm_f18 ?_))
    rw [mm_r18]
    refine ⟨ms_in (by omega) (by decide), ?_⟩
    rw [ms_nc (by omega), (f1 18 rfl).2.2.1]
    have e1 : nI (946 + 898 * xc) + 98 + 2 * nI i = nI (946 + 898 * xc + 98 + 2 * i) := by
      rw [show nI (946 + 898 * xc) + 98 = nI (946 + 898 * xc + 98) from ms_p1 98, show (2 : Int32) * nI i = nI (2 * i) from nI_mul 2 i, ms_p1]
    rw [e1, mm_w3]
    refine ⟨ms_in (by omega) (by decide), ?_⟩
    rw [ms_nc (by omega)]
    refine ms_oR_i mm_f3 (ms_oR_i mm_f19 ?_)
    rw [mm_r19]
    refine ⟨ms_in (by omega) (by decide), ?_⟩
    rw [ms_nc (by omega), show md_a (md_ua N2 3 (946 + 898 * xc + 98 + 2 * i) (md_a N 18 i)) 19 i = md_a N2 19 i by rw [md_a_ua, if_neg (show ¬ (19 = 3 ∧ i = 946 + 898 * xc + 98 + 2 * i) by omega)], (f1 19 rfl).2.2.1, show nI (946 + 898 * xc + 98 + 2 * i) + 1 = nI (946 + 898 * xc + 98 + 2 * i + 1) from ms_p1 1, mm_w3]
    refine ⟨ms_in (by omega) (by decide), ?_⟩
    rw [ms_nc (by omega), show nI i + 1 = nI (i + 1) from ms_p1 1]
    have a3 : ∀ m, md_a (md_ua (md_ua N2 3 (946 + 898 * xc + 98 + 2 * i) (md_a N 18 i)) 3 (946 + 898 * xc + 98 + 2 * i + 1) (md_a N 19 i)) 3 m = if m = 946 + 898 * xc + 98 + 2 * i + 1 then md_a N 19 i else if m = 946 + 898 * xc + 98 + 2 * i then md_a N 18 i else md_a N2 3 m := fun m => by
      by_cases z1 : m = 946 + 898 * xc + 98 + 2 * i + 1
      · rw [if_pos z1, z1, md_a_at]
      · rw [if_neg z1, md_a_ne z1]
        by_cases z2 : m = 946 + 898 * xc + 98 + 2 * i
        · rw [if_pos z2, z2, md_a_at]
        · rw [if_neg z2, md_a_ne z2]
    refine ih (i + 1) _ (by omega) (mr_a (mr_a f1 rfl) rfl) (fun m hm => ?_) (fun j hj => ?_)
    · rw [a3, if_neg (by omega), if_neg (by omega)]
      exact h1 m hm
    · by_cases hji : j = i
      · subst hji
        rw [a3, a3, if_neg (by omega), if_pos rfl, if_pos rfl]
        exact ⟨rfl, rfl⟩
      · rw [a3, a3, if_neg (by omega), if_neg (by omega), if_neg (by omega), if_neg (by omega)]
        exact h2 j (by omega)
theorem n_law140 {Qf : Option Value → ms_S → Prop} (h15 : md_i N 15 = nI cnt) (hcnt : cnt ≤ 12) (hxc : xc < 20) (hQ : ∀ N2, md_fr g3r N N2 → (∀ m, m < 946 + 898 * xc + 2 → md_a N2 3 m = md_a N 3 m) → (∀ i, i < 8 * cnt → md_a N2 3 (946 + 898 * xc + 2 + i) = md_a N 16 i) → ms_V cd_X9_law none 1 (ms_Cl (d + 1)) Qf 175 [(0, .ref h.length), (1, .int (nI (946 + 898 * xc))), (2, .int (nI 0))] [] (ms_m h N2 t)) : ms_V cd_X9_law none 1 (ms_Cl (d + 1)) Qf 140 [(0, .ref h.length), (1, .int (nI (946 + 898 * xc))), (2, .int (nI 0))] [] (ms_m h N t) := by
  suffices H : ∀ r i N2, i + r = 8 * cnt → md_fr g3r N N2 → (∀ m, m < 946 + 898 * xc + 2 → md_a N2 3 m = md_a N 3 m) → (∀ j, j < i → md_a N2 3 (946 + 898 * xc + 2 + j) = md_a N 16 j) → ms_V cd_X9_law none 1 (ms_Cl (d + 1)) Qf 140 [(0, .ref h.length), (1, .int (nI (946 + 898 * xc))), (2, .int (nI i))] [] (ms_m h N2 t) from H (8 * cnt) 0 N (by omega) mr_0 (fun _ _ => rfl) (fun j hj => absurd hj (Nat.not_lt_zero _))
  intro r
  induction r with
  | zero =>
    intro i N2 hi f1 h1 h2
    have hic : i = 8 * cnt := by omega
    subst hic
    refine b_X9_law_140 (ms_oI_i mm_f15 ?_)
    rw [(f1 15 rfl).1, h15, show (8 : Int32) * nI cnt = nI (8 * cnt) from nI_mul 8 cnt]
    exact ms_yes (Int32.le_refl _) (hQ N2 f1 h1 h2)
  | succ r ih =>
    intro i N2 hi f1 h1 h2
    refine b_X9_law_140 (ms_oI_i mm_f15 ?_)
    rw [(f1 15 rfl).1, h15, show (8 : Int32) * nI cnt = nI (8 * cnt) from nI_mul 8 cnt]
    refine ms_no (fun z => by rw [ms_nle (by omega) (by omega)] at z; omega) (ms_oR_i mm_f3 (ms_oR_i mm_f16 ?_))
    rw [mm_r16]
    refine ⟨ms_in (by omega) (by decide), ?_⟩
    rw [ms_nc (by omega), (f1 16 rfl).2.2.1, show nI (946 + 898 * xc) + 2 = nI (946 + 898 * xc + 2) from ms_p1 2, ms_p1, mm_w3]
    refine ⟨ms_in (by omega) (by decide), ?_⟩
    rw [ms_nc (by omega), show nI i + 1 = nI (i + 1) from ms_p1 1]
    refine ih (i + 1) _ (by omega) (mr_a f1 rfl) (fun m hm => by rw [md_a_ne (by omega)]; exact h1 m hm) (fun j hj => ?_)
    by_cases hji : j = i
    · subst hji
      rw [md_a_at]
    · rw [md_a_ne (by omega)]
      exact h2 j (by omega)
/-- the text stands -/
theorem n_fin {M : md_T} (f0 : md_fr gLw M N) (i0 : md_i N 0 = 0) (hR : RCm b n s lv c o a Cs N) (hxc : xc < 20) (hM3 : md_a M 3 3 = nI xc) : ms_oR (ms_fldR (ms_m h (md_ui N 8 0) t) h.length 9 3) fun x8 => ms_rI (ms_m h (md_ui N 8 0) t) x8 0 3 fun x9 => ms_c1 (ms_Cl (d + 1) 199 [.int x9] (ms_m h (md_ui N 8 0) t)) fun r11 g10 => ms_oR (ms_fldR g10 h.length 9 3) fun x12 => ms_oI (ms_fldI g10 h.length 9 15) fun x13 => ms_wI g10 x12 (r11 + 1) x13 fun g14 => ms_V cd_X9_law none 1 (ms_Cl (d + 1)) (LWm h M t xc (some (.inl Cs))) 140 [(0, .ref h.length), (1, .int r11), (2, .int 0)] [] g14 := by
  obtain ⟨hY, hC, h15, hold⟩ := hR
  have h400 := hY.1.1
  have hcs := hY.2.2.2.2.2.2.2.1
  have hsn := hY.2.2.1
  have f1 : md_fr gLw M (md_ui N 8 0) := mr_i f0 rfl
  have e0 : md_i (md_ui N 8 0) 0 = 0 := by rw [md_i_ne (by decide)]; exact i0
  have e8 : md_i (md_ui N 8 0) 8 = 0 := md_i_at
  have e13 : md_i (md_ui N 8 0) 13 = -1 := by rw [md_i_ne (by decide)]; exact hY.2.2.2.1.2
  have e15 : md_i (md_ui N 8 0) 15 = nI Cs.length := by rw [md_i_ne (by decide)]; exact h15
  have e17 : md_i (md_ui N 8 0) 17 = nI c := by rw [md_i_ne (by decide)]; exact hY.2.2.2.2.2.2.1
  have eA : ∀ q m, md_a (md_ui N 8 0) q m = md_a N q m := fun _ _ => rfl
  generalize md_ui N 8 0 = N1 at f1 e0 e8 e13 e15 e17 eA ⊢
  have e3 : ∀ m, md_a N1 3 m = md_a M 3 m := (f1 3 rfl).2.2.1
  refine ms_oR_i mm_f3 ?_
  rw [show (3 : Int32) = nI 3 from rfl]
  refine n_rd (k := 3) (v := nI xc) (by decide) (by rw [e3]; exact hM3) (ms_c1_i c9_textAt ?_)
  have eT : (946 : Int32) + 898 * nI xc = nI (946 + 898 * xc) := by
    rw [show (898 : Int32) * nI xc = nI (898 * xc) from nI_mul 898 xc]
    exact ms_p1 (p := 946) (898 * xc)
  rw [eT]
  refine ms_oR_i mm_f3 (ms_oI_i mm_f15 ?_)
  rw [e15, show nI (946 + 898 * xc) + 1 = nI (946 + 898 * xc + 1) from ms_p1 1, mm_w3]
  refine ⟨ms_in (by omega) (by decide), ?_⟩
  rw [ms_nc (by omega), show (0 : Int32) = nI 0 from rfl]
  have b3 : ∀ m, md_a (md_ua N1 3 (946 + 898 * xc + 1) (nI Cs.length)) 3 m = if m = 946 + 898 * xc + 1 then nI Cs.length else md_a N1 3 m := fun m => by
    by_cases z1 : m = 946 + 898 * xc + 1
    · rw [if_pos z1, z1, md_a_at]
    · rw [if_neg z1, md_a_ne z1]
  have f2 : md_fr g3r N1 (md_ua N1 3 (946 + 898 * xc + 1) (nI Cs.length)) := mr_a mr_0 rfl
  generalize md_ua N1 3 (946 + 898 * xc + 1) (nI Cs.length) = N2 at b3 f2 ⊢
  refine n_law140 (cnt := Cs.length) (by rw [(f2 15 rfl).1]; exact e15) hC hxc (fun N3 f3 c1 c2 => ?_)
  have f23 := mr_t f2 f3
  refine n_law175 (c := c) (by rw [(f23 17 rfl).1]; exact e17) (by omega) hxc (by rw [c1 3 (by omega), b3, if_neg (by omega), e3]; exact hM3) (fun N4 f4 d1 d2 d3 => ?_)
  have f24 := mr_t f23 f4
  have fv : md_fr gLv M N4 := mr_t (mr_s f1 (fun k hk => decide_eq_false (fun z => of_decide_eq_false hk (by omega)))) (mr_s f24 (fun k hk => decide_eq_false (fun z => of_decide_eq_false hk (by omega))))
  have r3 : ∀ m, m < 946 + 898 * xc + 98 → m ≠ 3 → md_a N4 3 m = md_a N3 3 m := d1
  have rC : ∀ i, i < 8 * Cs.length → md_a N4 3 (946 + 898 * xc + 2 + i) = md_a N 16 i := fun i hi => by
    rw [r3 _ (by omega) (by omega), c2 i hi, (f2 16 rfl).2.2.1, eA]
  have rO : ∀ i, i < c → md_a N4 3 (946 + 898 * xc + 98 + 2 * i) = md_a N 18 i ∧ md_a N4 3 (946 + 898 * xc + 98 + 2 * i + 1) = md_a N 19 i := fun i hi => by
    rw [(d3 i hi).1, (d3 i hi).2, (f23 18 rfl).2.2.1, (f23 19 rfl).2.2.1, eA, eA]
    exact ⟨rfl, rfl⟩
  refine ⟨N4, fv, by rw [(f24 0 rfl).1]; exact e0, by rw [(f24 13 rfl).1]; exact e13, by rw [(f24 8 rfl).1]; exact e8, fun m hm hm3 => by rw [r3 m (by omega) hm3, c1 m (by omega), b3, if_neg (by omega), e3], d2, ⟨?_, hC, c, o, a, ⟨by omega, fun i hi => ?_⟩, fun j x hj => ?_⟩, rfl, rfl⟩
  · rw [r3 _ (by omega) (by omega), c1 _ (by omega), b3, if_pos rfl]
  · have hcd := hY.2.2.2.2.2.2.2.2 i hi
    rw [(rO i hi).1, (rO i hi).2]
    exact ⟨hcd.1.1, hcd.1.2, hcd.2⟩
  · have hjl := (List.getElem?_eq_some_iff.mp hj).1
    obtain ⟨q1, q2, s1, m1, e1, q3, q4, q5, q6, q7, q8, q9, q10, q11⟩ := hold j x hj
    refine ⟨by rw [show 946 + 898 * xc + 2 + 8 * j = 946 + 898 * xc + 2 + (8 * j) from rfl, rC _ (by omega)]; exact q1, q2, s1, m1, e1, q3, q4, q5, by rw [show 946 + 898 * xc + 2 + 8 * j + 3 = 946 + 898 * xc + 2 + (8 * j + 3) by omega, rC _ (by omega)]; exact q6, by rw [show 946 + 898 * xc + 2 + 8 * j + 4 = 946 + 898 * xc + 2 + (8 * j + 4) by omega, rC _ (by omega)]; exact q7, by rw [show 946 + 898 * xc + 2 + 8 * j + 5 = 946 + 898 * xc + 2 + (8 * j + 5) by omega, rC _ (by omega)]; exact q8, by rw [show 946 + 898 * xc + 2 + 8 * j + 6 = 946 + 898 * xc + 2 + (8 * j + 6) by omega, rC _ (by omega)]; exact q9, ?_, ?_⟩
    · rcases q10 with ⟨z1, z2⟩ | ⟨k1, hk1, z⟩
      · rw [z1, z2]
        exact z_is_B
      · exact z_is_of z (by omega)
    · rcases q11 with z | ⟨k1, hk1, z⟩
      · exact Or.inl z
      · exact Or.inr ⟨z.1, z_is_of z (by omega)⟩
theorem n_lawB {M : md_T} (f0 : md_fr gLw M N) (i0 : md_i N 0 = 0) (h14 : md_i N 14 = 1) (h13 : md_i N 13 = nI p) : ms_V cd_X9_law none 1 (ms_Cl (d + 9)) (LWm h M t xc (some (.inr p))) 51 [(0, .ref h.length)] [] (ms_m h N t) := by
  refine b_X9_law_51 (ms_oI_i mm_f14 ?_)
  rw [h14]
  refine ms_no (by decide) (ms_oI_i mm_f14 ?_)
  rw [h14]
  refine ms_no (by decide) ?_
  rw [mm_p8]
  refine ms_oI_i mm_f14 ?_
  rw [md_i_ne (by decide), h14]
  refine ms_no (by decide) (ms_c1_i (c9_tell (Or.inr (by unfold vp_in; decide))) ⟨md_ui N 8 0, mr_i f0 rfl, by rw [md_i_ne (by decide)]; exact i0, by rw [md_i_ne (by decide)]; exact h13, md_i_at, rfl, rfl⟩)
theorem n_law51 {M : md_T} {res : List cl_T ⊕ Nat} (hxc : xc < 20) (hM3 : md_a M 3 3 = nI xc) : ∀ (G : Nat) (N : md_T) (s lv c : Nat) (o a : Nat → Nat) (Cs : List cl_T), md_fr gLw M N → md_i N 0 = 0 → RCm b n s lv c o a Cs N → (if tkc b n s = 59 then pt b n F G (tkx b n s) lv Cs else if tkc b n s = 301 then some (.inl Cs) else some (.inr (tkp b n s))) = some res → ms_V cd_X9_law none 1 (ms_Cl (d + 9)) (LWm h M t xc (some res)) 51 [(0, .ref h.length)] [] (ms_m h N t) := by
  intro G
  induction G with
  | zero =>
    intro N s lv c o a Cs f0 i0 hR hres
    have hY := hR.1
    have hbb : ∀ k, k < n → b k < 256 := fun k hk => (hY.1.2.2 k hk).2
    refine b_X9_law_51 (ms_oI_i mm_f14 ?_)
    rw [hY.2.2.2.1.1]
    refine ms_yes rfl (ms_c1_i (n_isSign (c := 59) (d := d + 8) hY.2.1 hbb (by decide) (by decide) (by decide)) ?_)
    show @ite Prop (ms_bi (decide (tkc b n s = 59)) = 0) _ _ _
    by_cases h59 : tkc b n s = 59
    · rw [if_pos h59] at hres
      cases hres
    · rw [if_neg h59] at hres
      rw [decide_eq_false h59]
      refine ms_yes rfl (ms_oI_i mm_f14 ?_)
      rw [hY.2.2.2.1.1]
      refine ms_yes rfl (ms_oI_i mm_f11 ?_)
      by_cases h301 : tkc b n s = 301
      · rw [if_pos h301] at hres
        have e2 := Option.some.inj hres
        subst e2
        refine ms_yes ((tk_301 hY.2.1 hbb).1 h301) ?_
        rw [mm_p8]
        refine ms_oI_i mm_f14 ?_
        rw [md_i_ne (by decide), hY.2.2.2.1.1]
        exact ms_yes rfl (n_fin (d := d + 8) f0 i0 hR hxc hM3)
      · rw [if_neg h301] at hres
        have e2 := Option.some.inj hres
        subst e2
        refine ms_no ((tk_301 hY.2.1 hbb).2 h301) (ms_c0_i (n_mustN (d := d + 8) hY.2.2.2.1.1) ?_)
        rw [mm_p8]
        refine ms_oI_i mm_f14 ?_
        rw [md_i_ne (by decide), md_i_ne (by decide), md_i_at]
        refine ms_no (by decide) (ms_c1_i (c9_tell (Or.inr (by unfold vp_in; decide))) ⟨_, mr_i (mr_i (mr_i f0 rfl) rfl) rfl, by rw [md_i_ne (by decide), md_i_ne (by decide), md_i_ne (by decide)]; exact i0, by rw [md_i_ne (by decide), md_i_at]; exact (TK_at hY.2.1).1, md_i_at, rfl, rfl⟩)
  | succ G ih =>
    intro N s lv c o a Cs f0 i0 hR hres
    have hY := hR.1
    have hbb : ∀ k, k < n → b k < 256 := fun k hk => (hY.1.2.2 k hk).2
    refine b_X9_law_51 (ms_oI_i mm_f14 ?_)
    rw [hY.2.2.2.1.1]
    refine ms_yes rfl (ms_c1_i (n_isSign (c := 59) (d := d + 8) hY.2.1 hbb (by decide) (by decide) (by decide)) ?_)
    show @ite Prop (ms_bi (decide (tkc b n s = 59)) = 0) _ _ _
    by_cases h59 : tkc b n s = 59
    · rw [if_pos h59] at hres
      rw [decide_eq_true h59]
      have gt := tok_gt hY.2.2.1 (show tkc b n s ≠ 301 by omega)
      refine ms_no (by decide) (my_n0 (n_next (d := d + 7) hY.1 (TK_at hY.2.1).2 (tok_nx hY.2.2.1).1) (fun N2 f2 hK => ?_))
      have hY2 := YS_next hY f2 hK (by show s ≤ tkx b n s; omega)
      have hR2 : RCm b n (tkx b n s) lv c o a Cs N2 := ⟨hY2, hR.2.1, by rw [(f2 15 rfl).1]; exact hR.2.2.1, fun j x hj => CLm_up (hR.2.2.2 j x hj) (fun m _ => (f2 16 rfl).2.2.1 m) (Nat.le_refl _) (fun _ _ => ⟨rfl, rfl⟩)⟩
      have hq : (match pk b n F (tkx b n s) lv Cs.length with
        | none => none
        | some (.inr p) => some (.inr p)
        | some (.inl a) => if tkc b n a.2.1 = 59 then pt b n F G (tkx b n a.2.1) a.2.2 (Cs ++ [a.1]) else if tkc b n a.2.1 = 301 then some (.inl (Cs ++ [a.1])) else some (.inr (tkp b n a.2.1))) = some res := hres
      have hrr : ∃ r1, pk b n F (tkx b n s) lv Cs.length = some r1 := by
        cases hz : pk b n F (tkx b n s) lv Cs.length with
        | none => rw [hz] at hq; cases hq
        | some r1 => exact ⟨r1, rfl⟩
      obtain ⟨r1, hr1⟩ := hrr
      rw [hr1] at hq
      have fw : md_fr gLw M N2 := mr_t f0 (mr_s f2 (fun k hk => decide_eq_false (fun z => of_decide_eq_false hk (by omega))))
      refine my_n0 (n_readClause (d := d + 1) hR2 hr1) (fun N3 f3 hR3 => ?_)
      have fw3 : md_fr gLw M N3 := mr_t fw (mr_s f3 (fun k hk => decide_eq_false (fun z => of_decide_eq_false hk (by omega))))
      have i03 : md_i N3 0 = 0 := by rw [(f3 0 rfl).1, (f2 0 rfl).1]; exact i0
      cases r1 with
      | inr p =>
        have e2 : res = .inr p := (Option.some.inj hq).symm
        subst e2
        exact n_lawB fw3 i03 hR3.1 hR3.2
      | inl x =>
        obtain ⟨c', o', a', hR4⟩ := hR3
        exact ih N3 x.2.1 x.2.2 c' o' a' (Cs ++ [x.1]) fw3 i03 hR4 hq
    · rw [if_neg h59] at hres
      rw [decide_eq_false h59]
      refine ms_yes rfl (ms_oI_i mm_f14 ?_)
      rw [hY.2.2.2.1.1]
      refine ms_yes rfl (ms_oI_i mm_f11 ?_)
      by_cases h301 : tkc b n s = 301
      · rw [if_pos h301] at hres
        have e2 := Option.some.inj hres
        subst e2
        refine ms_yes ((tk_301 hY.2.1 hbb).1 h301) ?_
        rw [mm_p8]
        refine ms_oI_i mm_f14 ?_
        rw [md_i_ne (by decide), hY.2.2.2.1.1]
        exact ms_yes rfl (n_fin (d := d + 8) f0 i0 hR hxc hM3)
      · rw [if_neg h301] at hres
        have e2 := Option.some.inj hres
        subst e2
        refine ms_no ((tk_301 hY.2.1 hbb).2 h301) (ms_c0_i (n_mustN (d := d + 8) hY.2.2.2.1.1) ?_)
        rw [mm_p8]
        refine ms_oI_i mm_f14 ?_
        rw [md_i_ne (by decide), md_i_ne (by decide), md_i_at]
        refine ms_no (by decide) (ms_c1_i (c9_tell (Or.inr (by unfold vp_in; decide))) ⟨_, mr_i (mr_i (mr_i f0 rfl) rfl) rfl, by rw [md_i_ne (by decide), md_i_ne (by decide), md_i_ne (by decide)]; exact i0, by rw [md_i_ne (by decide), md_i_at]; exact (TK_at hY.2.1).1, md_i_at, rfl, rfl⟩)
theorem LWm_l {res : Option (List cl_T ⊕ Nat)} : ∀ r g', LWm h M t xc res r g' → (ms_m h M t).length ≤ g'.length ∧ ms_tot (ms_m h M t) ≤ ms_tot g' := by
  intro r g' hq
  match res, hq with
  | none, ⟨_, e⟩ =>
    rw [e]
    exact ⟨ms_m_l, ms_m_t⟩
  | some (.inr p), ⟨N, _, _, _, _, _, e⟩ =>
    rw [e]
    exact ⟨ms_m_l, ms_m_t⟩
  | some (.inl Cs), ⟨N, _, _, _, _, _, _, _, _, e⟩ =>
    rw [e]
    exact ⟨ms_m_l, ms_m_t⟩
theorem n_law5 (h3 : md_a M 3 3 = nI 20) : ms_H' (d + 10) 198 [.ref h.length] (ms_m h M t) (LWm h M t xc none) := by
  refine mx_m (fun a b c => m_X9_law a b ⟨_, ms_m_0⟩ c) LWm_l (b_X9_law_0 ?_)
  rw [mm_p0]
  refine ms_oR_i mm_f3 ?_
  rw [show (3 : Int32) = nI 3 from rfl]
  refine n_rd (k := 3) (v := nI 20) (N := md_ui M 0 0) (by decide) h3 ?_
  refine ms_yes rfl ?_
  rw [mm_p8]
  exact ms_c1_i (c9_tell (Or.inr (by unfold vp_in; decide))) ⟨rfl, rfl⟩
theorem n_law {G : Nat} {res : List cl_T ⊕ Nat} (hxc : xc < 20) (h3 : md_a M 3 3 = nI xc) (hT : TP M b n) (hres : pt b n F (G + 1) 0 0 [] = some res) : ms_H' (d + 10) 198 [.ref h.length] (ms_m h M t) (LWm h M t xc (some res)) := by
  refine mx_m (fun a b c => m_X9_law a b ⟨_, ms_m_0⟩ c) LWm_l (b_X9_law_0 ?_)
  rw [mm_p0]
  refine ms_oR_i mm_f3 ?_
  rw [show (3 : Int32) = nI 3 from rfl]
  refine n_rd (k := 3) (v := nI xc) (N := md_ui M 0 0) (by decide) h3 ?_
  refine ms_no (fun z => by rw [show (20 : Int32) = nI 20 from rfl, ms_nI_eq (by omega) (by decide)] at z; omega) ?_
  have hT0 : TP (md_ui M 0 0) b n := TP_i hT (by decide)
  have begin' : ms_H' (d + 9) 175 [.ref h.length] (ms_m h (md_ui M 0 0) t) (gN gBg h (md_ui M 0 0) t (fun N => TK b n 0 N ∧ TP N b n ∧ md_i N 14 = 0 ∧ md_i N 13 = -1)) := by
    refine mx_m (fun a b c => m_X9_begin a b ⟨_, ms_m_0⟩ c) gN_l (b_X9_begin_0 ?_)
    rw [mm_p10, mm_p14]
    refine ⟨(by first | exact Or.inr rfl | exact Or.inl rfl | exact Or.inl trivial | exact Or.inr trivial | trivial), ?_⟩
    rw [mm_p13]
    have hT1 : TP (md_ui (md_ui (md_ui (md_ui M 0 0) 10 0) 14 0) 13 (-1)) b n := TP_i (TP_i (TP_i hT0 (by decide)) (by decide)) (by decide)
    refine my_n0 (n_next (d := d + 6) (b := b) (n := n) (s := 0) hT1 (by rw [md_i_ne (by decide), md_i_ne (by decide), md_i_at]; rfl) (Nat.zero_le _)) (fun N f hK => ⟨N, mr_t (mr_i (mr_i (mr_i mr_0 rfl) rfl) rfl) (mr_s f (fun k hk => decide_eq_false (fun z => of_decide_eq_false hk (by omega)))), rfl, rfl, hK, TP_eq hT1 (f 8 rfl).1 (f 7 rfl).2.2.1, ?_, ?_⟩)
    · rw [(f 14 rfl).1, md_i_ne (by decide), md_i_at]
    · rw [(f 13 rfl).1, md_i_at]
  refine my_n0 begin' (fun N f hN => ?_)
  obtain ⟨hK, hT2, h14, h13⟩ := hN
  have fM : md_fr gLw M N := mr_t (mr_i mr_0 rfl) (mr_s f (fun k hk => decide_eq_false (fun z => of_decide_eq_false hk (by omega))))
  have i0 : md_i N 0 = 0 := by rw [(f 0 rfl).1, md_i_at]
  rw [mm_p15, mm_p17, mm_p20]
  have f1 : md_fr gLw M (md_ui (md_ui (md_ui N 15 0) 17 0) 20 0) := mr_i (mr_i (mr_i fM rfl) rfl) rfl
  have j0 : md_i (md_ui (md_ui (md_ui N 15 0) 17 0) 20 0) 0 = 0 := by rw [md_i_ne (by decide), md_i_ne (by decide), md_i_ne (by decide)]; exact i0
  have hR : RCm b n 0 0 0 (fun _ => 0) (fun _ => 0) [] (md_ui (md_ui (md_ui N 15 0) 17 0) 20 0) := ⟨⟨TP_i (TP_i (TP_i hT2 (by decide)) (by decide)) (by decide), TK_eq hK (by rw [md_i_ne (by decide), md_i_ne (by decide), md_i_ne (by decide)]) (by rw [md_i_ne (by decide), md_i_ne (by decide), md_i_ne (by decide)]) (by rw [md_i_ne (by decide), md_i_ne (by decide), md_i_ne (by decide)]) rfl, Nat.zero_le _, ⟨by rw [md_i_ne (by decide), md_i_ne (by decide), md_i_ne (by decide)]; exact h14, by rw [md_i_ne (by decide), md_i_ne (by decide), md_i_ne (by decide)]; exact h13⟩, md_i_at, by decide, by rw [md_i_ne (by decide), md_i_at]; rfl, Nat.le_refl _, fun i hi => absurd hi (Nat.not_lt_zero _)⟩, by decide, by rw [md_i_ne (by decide), md_i_ne (by decide), md_i_at]; rfl, fun j x hx => by cases hx⟩
  generalize md_ui (md_ui (md_ui N 15 0) 17 0) 20 0 = N2 at f1 j0 hR ⊢
  have hq : (match pk b n F 0 0 ([] : List cl_T).length with
    | none => none
    | some (.inr p) => some (.inr p)
    | some (.inl a) => if tkc b n a.2.1 = 59 then pt b n F G (tkx b n a.2.1) a.2.2 ([] ++ [a.1]) else if tkc b n a.2.1 = 301 then some (.inl ([] ++ [a.1])) else some (.inr (tkp b n a.2.1))) = some res := hres
  have hrr : ∃ r1, pk b n F 0 0 ([] : List cl_T).length = some r1 := by
    cases hz : pk b n F 0 0 ([] : List cl_T).length with
    | none => rw [hz] at hq; cases hq
    | some r1 => exact ⟨r1, rfl⟩
  obtain ⟨r1, hr1⟩ := hrr
  rw [hr1] at hq
  refine my_n0 (n_readClause (d := d + 1) hR hr1) (fun N3 f3 hR3 => ?_)
  have fw3 : md_fr gLw M N3 := mr_t f1 (mr_s f3 (fun k hk => decide_eq_false (fun z => of_decide_eq_false hk (by omega))))
  have i03 : md_i N3 0 = 0 := by rw [(f3 0 rfl).1]; exact j0
  cases r1 with
  | inr p =>
    have e2 : res = .inr p := (Option.some.inj hq).symm
    subst e2
    exact n_lawB fw3 i03 hR3.1 hR3.2
  | inl x =>
    obtain ⟨c', o', a', hR4⟩ := hR3
    exact n_law51 hxc h3 G N3 x.2.1 x.2.2 c' o' a' ([] ++ [x.1]) fw3 i03 hR4 hq
end Lx
