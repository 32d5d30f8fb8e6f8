/-! THE MODEL'S makeEntry, worldOf, world; written by wip/whole/mdl.py from r_wo.txt -/
section Wo2
variable {d i j k n p o e f u v x y s r c m w cl : Nat} {h t : ms_S} {M N L : md_T} {A A0 : ab_T} {mf : Nat → Option Nat} {G : gT} {og : Option Nat} {F : Nat → Nat}
theorem n_63 (hG : GM (A, mf, s) N) (hI : GI A0 k y (A, mf, s)) (hk : k < 8) (hy : y < ab_t A0) (hs : s < 1000003) (hf : mfr M N) : ms_V cd_X9_makeEntry none 0 (ms_Cl (d + 3)) (gNW h M t (GM (gE2 A mf k y none s))) 63 [(0, .ref h.length), (1, .int (nI k)), (2, .int (nI y)), (5, .int (nI (ab_e A)))] [] (ms_m h N t) := by
  obtain ⟨w, h50, h51⟩ := hG
  obtain ⟨⟨i1, _, _⟩, i4, i5, i6, i7, _, _, _⟩ := hI
  have i1' : ab_t A = ab_t A0 := i1
  have i5' : ab_p A = k + 1 := i5
  have i6' : ab_e A ≤ 8 * k + y := i6
  have i7' : (ab_l A k).length ≤ y := i7
  have w' : MX A N := w
  have h8 := w'.1.1.1
  have rth : ∀ j, j < 6 → md_a N 3 (10 + 6 * y + j) = nI (ab_th A y j) := fun j hj => w'.2.2.1 y j (by omega) hj
  have e0 : ∀ j : Nat, (10 + 6 * nI y) + nI j = nI (10 + 6 * y + j) := fun j => by
    rw [show (6 : Int32) * nI y = nI (6 * y) from nI_mul 6 _, show (10 : Int32) + nI (6 * y) = nI (10 + 6 * y) from ms_p1 _, ms_p1]
  have ea : (10 : Int32) + 6 * nI y = nI (10 + 6 * y) := by
    rw [show (6 : Int32) * nI y = nI (6 * y) from nI_mul 6 _, show (10 : Int32) + nI (6 * y) = nI (10 + 6 * y) from ms_p1 _]
  refine b_X9_makeEntry_63 (ms_yes rfl (ms_c1_i c9_thingAt ?_))
  simp only [ms_oR_e, ms_oI_e, ms_oL_e, mm_f3, mm_r3, mm_w3]
  rw [ea, show nI (10 + 6 * y) + 1 = nI (10 + 6 * y + 1) from ms_p1 1, show nI (10 + 6 * y) + 2 = nI (10 + 6 * y + 2) from ms_p1 2, show nI (10 + 6 * y) + 3 = nI (10 + 6 * y + 3) from ms_p1 3]
  refine ⟨ms_in (by omega) (by decide), ms_in (by omega) (by decide), ms_in (by omega) (by decide), ms_in (by omega) (by decide), ?_⟩
  refine ms_c1_i c9_thingAt ?_
  simp only [ms_oR_e, ms_oI_e, ms_oL_e, mm_f3, mm_r3, mm_w3]
  rw [ea, show nI (10 + 6 * y) + 4 = nI (10 + 6 * y + 4) from ms_p1 4]
  refine ⟨ms_in (by omega) (by decide), ?_⟩
  rw [ms_nc (by omega), ms_nc (by omega), ms_nc (by omega), ms_nc (by omega), ms_nc (by omega), show 10 + 6 * y = 10 + 6 * y + 0 from rfl, rth 0 (by decide), rth 1 (by decide), rth 2 (by decide), rth 3 (by decide), rth 4 (by decide)]
  refine ms_c0_i (c9_addEntry (d := d + 1) (n := ab_e A) w'.n2 (by omega)) ?_
  have hN := MX_E (F := gF A y none) (cl := ab_th A y 4) w' (by omega) (by omega : k < ab_p A) (by omega : y < ab_t A) (fun i => gF_lt w'.1) (w'.1.2.1 _ _) (by omega)
  exact n_tail (A := A) (k := k) (y := y) (og := none) hN (by omega) h50 hs (fun i hi => by rw [md_addE_o (by decide)]; exact h51 i hi) (mfr_t hf (mfr_E (by omega)))
theorem n_me3 {s2 : Nat} {N2 : md_T} (hG2 : GM (A, mf, s2) N2) (hI2 : GI A0 k y (A, mf, s2)) (hk : k < 8) (hy : y < ab_t A0) (d2 : s2 < 1000003) (hf2 : mfr M N2) : ms_V cd_X9_makeEntry none 0 (ms_Cl (d + 3)) (gNW h M t (GM (gE2 A mf k y (if (thl A y (ab_e A)).length = 0 then (none, s2) else ((thl A y (ab_e A))[dr s2 % (thl A y (ab_e A)).length]?, dr s2)).1 (if (thl A y (ab_e A)).length = 0 then (none, s2) else ((thl A y (ab_e A))[dr s2 % (thl A y (ab_e A)).length]?, dr s2)).2))) 46 [(0, .ref h.length), (1, .int (nI k)), (2, .int (nI y)), (3, .int (nI (thl A y (ab_e A)).length)), (4, .int 0)] [] (ms_m h N2 t) := by
  have hI' := hI2
  obtain ⟨⟨i1, _, _⟩, i4, i5, i6, i7, _, _, _⟩ := hI'
  have i1' : ab_t A = ab_t A0 := i1
  have i5' : ab_p A = k + 1 := i5
  have i6' : ab_e A ≤ 8 * k + y := i6
  have i7' : (ab_l A k).length ≤ y := i7
  have hle := thl_le (A := A) (y := y) (n := ab_e A)
  have w2 : MX A N2 := hG2.1
  have h8 := w2.1.1.1
  refine b_X9_makeEntry_46 (ms_oR_i mm_f3 (n_ec w2 (ms_yes rfl ?_)))
  refine ms_ite2 (fun z5 => ?_) (fun z5 => ?_) <;> rw [show (0 : Int32) = nI 0 from rfl, ms_nI_eq (by omega) (by omega)] at z5
  · rw [if_pos z5]
    exact n_63 hG2 hI2 hk hy d2 hf2
  rw [if_neg z5]
  refine ms_c1_i (n_draw (d := d + 2) (n := (thl A y (ab_e A)).length) (show md_l N2 50 = dL s2 from hG2.2.1) d2 (by omega) (by omega)) ?_
  have hml : dr s2 % (thl A y (ab_e A)).length < (thl A y (ab_e A)).length := Nat.mod_lt _ (by omega)
  have d3 := dr_lt (s := s2)
  have hG3 : GM (A, mf, dr s2) (md_ul N2 50 (dL (dr s2))) := ⟨hG2.1, md_l_at, hG2.2.2⟩
  have hf3 : mfr M (md_ul N2 50 (dL (dr s2))) := mfr_t hf2 mfr_l
  generalize md_ul N2 50 (dL (dr s2)) = N3 at hG3 hf3 ⊢
  generalize dr s2 = s3 at hml d3 hG3 ⊢
  generalize s3 % (thl A y (ab_e A)).length = qi at hml ⊢
  have w3 : MX A N3 := hG3.1
  refine ms_c1_i (n_pick (d := d) w3 (by omega) (by omega)) ?_
  obtain ⟨g, hg⟩ : ∃ g, (thl A y (ab_e A))[qi]? = some g := ⟨_, List.getElem?_eq_getElem hml⟩
  have hgl : g < ab_e A := gO_in (A := A) (y := y) (q := qi) rfl g hg
  rw [hg, show or_I (some g) = nI g from rfl]
  refine ms_no (nI_m1 (x := g) (by omega)) (ms_c1_i c9_entryAt ?_)
  have ren : ∀ j, j < 7 → md_a N3 3 (106 + 7 * g + j) = nI (ab_en A g j) := fun j hj => w3.2.2.2.2.1 g j hgl hj
  have rth : ∀ j, j < 6 → md_a N3 3 (10 + 6 * y + j) = nI (ab_th A y j) := fun j hj => w3.2.2.1 y j (by omega) hj
  have ea : (10 : Int32) + 6 * nI y = nI (10 + 6 * y) := by
    rw [show (6 : Int32) * nI y = nI (6 * y) from nI_mul 6 _, show (10 : Int32) + nI (6 * y) = nI (10 + 6 * y) from ms_p1 _]
  have eg : (106 : Int32) + 7 * nI g = nI (106 + 7 * g) := by
    rw [show (7 : Int32) * nI g = nI (7 * g) from nI_mul 7 _, show (106 : Int32) + nI (7 * g) = nI (106 + 7 * g) from ms_p1 _]
  simp only [ms_oR_e, ms_oI_e, ms_oL_e, mm_f3, mm_r3, mm_w3]
  rw [eg, show nI (106 + 7 * g) + 2 = nI (106 + 7 * g + 2) from ms_p1 2, show nI (106 + 7 * g + 2) + 1 = nI (106 + 7 * g + 3) from ms_p1 1, show nI (106 + 7 * g + 2) + 2 = nI (106 + 7 * g + 4) from ms_p1 2, show nI (106 + 7 * g + 2) + 3 = nI (106 + 7 * g + 5) from ms_p1 3]
  refine ⟨ms_in (by omega) (by decide), ms_in (by omega) (by decide), ms_in (by omega) (by decide), ms_in (by omega) (by decide), ?_⟩
  refine ms_c1_i c9_thingAt ?_
  simp only [ms_oR_e, ms_oI_e, ms_oL_e, mm_f3, mm_r3, mm_w3]
  rw [ea, show nI (10 + 6 * y) + 4 = nI (10 + 6 * y + 4) from ms_p1 4]
  refine ⟨ms_in (by omega) (by decide), ?_⟩
  rw [ms_nc (by omega), ms_nc (by omega), ms_nc (by omega), ms_nc (by omega), ms_nc (by omega), ren 2 (by decide), ren 3 (by decide), ren 4 (by decide), ren 5 (by decide), rth 4 (by decide)]
  refine ms_c0_i (c9_addEntry (d := d + 1) (n := ab_e A) w3.n2 (by omega)) ?_
  have hN := MX_E (F := gF A y (some g)) (cl := ab_th A y 4) w3 (by omega) (by omega : k < ab_p A) (by omega : y < ab_t A) (fun i => gF_lt w3.1) (w3.1.2.1 _ _) (by omega)
  exact n_tail (A := A) (k := k) (y := y) (og := some g) hN (by omega) (show md_l N3 50 = dL s3 from hG3.2.1) d3 (fun i hi => by rw [md_addE_o (by decide)]; exact hG3.2.2 i hi) (mfr_t hf3 (mfr_E (by omega)))
theorem n_me2 {s1 : Nat} {N1 : md_T} (hG1 : GM (A, mf, s1) N1) (hI1 : GI A0 k y (A, mf, s1)) (hk : k < 8) (hy : y < ab_t A0) (d1 : s1 < 1000003) (hf1 : mfr M N1) : ms_c1 (ms_Cl (d + 3) 250 [.ref h.length, .int (nI y), .int (-1)] (ms_m h N1 t)) fun r4 g3 => if nI k = 0 then (if nI k ≤ 0 then (ms_V cd_X9_makeEntry none 0 (ms_Cl (d + 3)) (gNW h M t (GM (gE2 A mf k y (gO A k y s1).1 (gO A k y s1).2))) 46 [(0, .ref h.length), (1, .int (nI k)), (2, .int (nI y)), (3, .int r4), (4, .int 1)] [] g3) else (ms_c1 (ms_Cl (d + 3) 249 [.ref h.length, .int 4] g3) fun r6 g5 => if r6 = 0 then (ms_V cd_X9_makeEntry none 0 (ms_Cl (d + 3)) (gNW h M t (GM (gE2 A mf k y (gO A k y s1).1 (gO A k y s1).2))) 46 [(0, .ref h.length), (1, .int (nI k)), (2, .int (nI y)), (3, .int r4), (4, .int 1)] [] g5) else (ms_V cd_X9_makeEntry none 0 (ms_Cl (d + 3)) (gNW h M t (GM (gE2 A mf k y (gO A k y s1).1 (gO A k y s1).2))) 46 [(0, .ref h.length), (1, .int (nI k)), (2, .int (nI y)), (3, .int r4), (4, .int 0)] [] g5))) else (if nI k ≤ 0 then (ms_V cd_X9_makeEntry none 0 (ms_Cl (d + 3)) (gNW h M t (GM (gE2 A mf k y (gO A k y s1).1 (gO A k y s1).2))) 46 [(0, .ref h.length), (1, .int (nI k)), (2, .int (nI y)), (3, .int r4), (4, .int 0)] [] g3) else (ms_c1 (ms_Cl (d + 3) 249 [.ref h.length, .int 4] g3) fun r8 g7 => if r8 = 0 then (ms_V cd_X9_makeEntry none 0 (ms_Cl (d + 3)) (gNW h M t (GM (gE2 A mf k y (gO A k y s1).1 (gO A k y s1).2))) 46 [(0, .ref h.length), (1, .int (nI k)), (2, .int (nI y)), (3, .int r4), (4, .int 1)] [] g7) else (ms_V cd_X9_makeEntry none 0 (ms_Cl (d + 3)) (gNW h M t (GM (gE2 A mf k y (gO A k y s1).1 (gO A k y s1).2))) 46 [(0, .ref h.length), (1, .int (nI k)), (2, .int (nI y)), (3, .int r4), (4, .int 0)] [] g7))) := by
  have hI' := hI1
  obtain ⟨⟨i1, _, _⟩, i4, i5, i6, i7, _, _, _⟩ := hI'
  have i1' : ab_t A = ab_t A0 := i1
  have i5' : ab_p A = k + 1 := i5
  have i6' : ab_e A ≤ 8 * k + y := i6
  have i7' : (ab_l A k).length ≤ y := i7
  have hle := thl_le (A := A) (y := y) (n := ab_e A)
  have w1 : MX A N1 := hG1.1
  have h8 := w1.1.1.1
  refine ms_c1_i (n_count (d := d) w1 (by omega)) ?_
  have looks : ∀ (N : md_T) (s2 : Nat), mfr M N → GM (A, mf, s2) N → GI A0 k y (A, mf, s2) → s2 < 1000003 → ms_V cd_X9_makeEntry none 0 (ms_Cl (d + 3)) (gNW h M t (GM (gE2 A mf k y none s2))) 46 [(0, .ref h.length), (1, .int (nI k)), (2, .int (nI y)), (3, .int (nI (thl A y (ab_e A)).length)), (4, .int 1)] [] (ms_m h N t) := by
    intro N s2 hfN hGN hIN hs2
    exact b_X9_makeEntry_46 (ms_oR_i mm_f3 (n_ec hGN.1 (ms_no (by decide) (n_63 hGN hIN hk hy hs2 hfN))))
  unfold gO
  refine ms_ite2 (fun zk => ?_) (fun zk => ?_) <;> rw [show (0 : Int32) = nI 0 from rfl, ms_nI_eq (by omega) (by omega)] at zk
  · rw [if_pos zk, zk]
    refine ms_yes (by decide) ?_
    have := looks N1 s1 hf1 hG1 hI1 d1
    rw [zk] at this
    exact this
  rw [if_neg zk]
  refine ms_no (fun z => by rw [show (0 : Int32) = nI 0 from rfl, ms_nle (by omega) (by omega)] at z; omega) ?_
  refine ms_c1_i (n_draw (d := d + 2) (n := 4) (show md_l N1 50 = dL s1 from hG1.2.1) d1 (by decide) (by decide)) ?_
  have m4 : dr s1 % 4 < 4 := Nat.mod_lt _ (by decide)
  have d2 := dr_lt (s := s1)
  have hI2 : GI A0 k y (A, mf, dr s1) := GI_dr hI1
  have hG2 : GM (A, mf, dr s1) (md_ul N1 50 (dL (dr s1))) := ⟨hG1.1, md_l_at, hG1.2.2⟩
  have hf2 : mfr M (md_ul N1 50 (dL (dr s1))) := mfr_t hf1 mfr_l
  generalize md_ul N1 50 (dL (dr s1)) = N2 at hG2 hf2 ⊢
  generalize dr s1 = s2 at m4 d2 hI2 hG2 ⊢
  generalize s2 % 4 = q4 at m4 ⊢
  refine ms_ite2 (fun z4 => ?_) (fun z4 => ?_) <;> rw [show (0 : Int32) = nI 0 from rfl, ms_nI_eq (by omega) (by omega)] at z4
  · rw [if_pos z4]
    exact looks N2 s2 hf2 hG2 hI2 d2
  rw [if_neg z4]
  exact n_me3 hG2 hI2 hk hy d2 hf2
theorem n_makeEntry (hG : GM G M) (hI : GI A0 k y G) (hk : k < 8) (hy : y < ab_t A0) : ms_H' (d + 4) 251 [.ref h.length, .int (nI k), .int (nI y)] (ms_m h M t) (gNW h M t (GM (gEn G k y))) := by
  obtain ⟨A, mf, s⟩ := G
  have hI' := hI
  obtain ⟨⟨i1, _, _⟩, i4, i5, i6, i7, _, i9, _⟩ := hI'
  have i1' : ab_t A = ab_t A0 := i1
  have i5' : ab_p A = k + 1 := i5
  have i6' : ab_e A ≤ 8 * k + y := i6
  have i7' : (ab_l A k).length ≤ y := i7
  have i9' : s < 1000003 := i9
  have w : MX A M := hG.1
  have h50 : md_l M 50 = dL s := hG.2.1
  have h8 := w.1.1.1
  have hle := thl_le (A := A) (y := y) (n := ab_e A)
  refine mx_m (fun a b c => m_X9_makeEntry a b ⟨_, ms_m_0⟩ c) gNW_l (b_X9_makeEntry_0 ?_)
  refine ms_c1_i (n_draw (d := d + 2) (n := 3) h50 i9' (by decide) (by decide)) ?_
  unfold gEn
  have m3 : dr s % 3 < 3 := Nat.mod_lt _ (by decide)
  have d1 := dr_lt (s := s)
  rw [show dr ((A, mf, s) : gT).2.2 = dr s from rfl, show ((A, mf, s) : gT).1 = A from rfl, show ((A, mf, s) : gT).2.1 = mf from rfl]
  have hI1 : GI A0 k y (A, mf, dr s) := GI_dr hI
  have hG1 : GM (A, mf, dr s) (md_ul M 50 (dL (dr s))) := ⟨hG.1, md_l_at, hG.2.2⟩
  have hf1 : mfr M (md_ul M 50 (dL (dr s))) := mfr_l
  generalize md_ul M 50 (dL (dr s)) = N1 at hG1 hf1 ⊢
  generalize dr s = s1 at m3 d1 hI1 hG1 ⊢
  generalize s1 % 3 = q3 at m3 ⊢
  refine ms_ite2 (fun z => ?_) (fun z => ?_) <;> rw [show (0 : Int32) = nI 0 from rfl, ms_nI_eq (by omega) (by omega)] at z
  · rw [if_pos z]
    exact ⟨_, hf1, rfl, rfl, hG1⟩
  rw [if_neg z]
  have w1 : MX A N1 := hG1.1
  exact n_me2 hG1 hI1 hk hy d1 hf1
end Wo2
