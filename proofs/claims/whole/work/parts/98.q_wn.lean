/-! THE MODEL'S makeEntry; written by wip/whole/mdl.py from q_wn.txt -/
section Wn
variable {d i j k n p o e f u v x y s r c m w cl : Nat} {h t : ms_S} {M N L : md_T} {A A0 : ab_T} {mf : Nat → Option Nat} {G : gT} {og : Option Nat} {F : Nat → Nat}
theorem md_l_ua {k q : Nat} {z : Int32} : md_l (md_ua M k q z) j = md_l M j := rfl
theorem mfr_0 : mfr M M := ⟨mr_0, fun _ _ => rfl⟩
theorem mfr_t (h1 : mfr M N) (h2 : mfr N L) : mfr M L := ⟨mr_t h1.1 h2.1, fun m hm => (h2.2 m hm).trans (h1.2 m hm)⟩
theorem mfr_l {z : Int64} : mfr M (md_ul M 50 z) := ⟨mr_l mr_0 (by decide), fun _ _ => rfl⟩
theorem mfr_51 {z : Int32} : mfr M (md_ua M 51 m z) := ⟨mr_a mr_0 (by decide), fun q hq => by rw [md_a_fun (by decide)]⟩
theorem mfr_3 {z : Int32} (hm : m < 946) : mfr M (md_ua M 3 m z) := ⟨mr_a mr_0 (by decide), fun q hq => md_a_ne (by omega)⟩
theorem mfr_E {p th a b c e w : Int32} (hn : n < 120) : mfr M (md_addE M n p th a b c e w) := by
  unfold md_addE md_lay
  exact mfr_t (mfr_t (mfr_t (mfr_t (mfr_t (mfr_t (mfr_t (mfr_3 (by omega)) (mfr_3 (by omega))) (mfr_3 (by omega))) (mfr_3 (by omega))) (mfr_3 (by omega))) (mfr_3 (by omega))) (mfr_3 (by omega))) (mfr_3 (by decide))
theorem mfr_P {a b c : Int32} (hn : n < 16) : mfr M (md_addP M n a b c) := by
  unfold md_addP
  exact mfr_t (mfr_t (mfr_t (mfr_3 (by omega)) (mfr_3 (by omega))) (mfr_3 (by omega))) (mfr_3 (by decide))
theorem gNW_l {P : md_T → Prop} : ∀ r g', gNW h M t P r g' → (ms_m h M t).length ≤ g'.length ∧ ms_tot (ms_m h M t) ≤ ms_tot g' := by
  rintro r g' ⟨N, hf, rfl, _⟩
  exact ⟨ms_m_l, ms_m_t⟩
theorem mw_m0 {K : ms_S → Prop} {y : Nat} {as : List Value} {P : md_T → Prop} (hh : ms_H' d y as (ms_m h M t) (gNW h M t P)) (hk : ∀ N, mfr M N → P N → K (ms_m h N t)) : ms_c0 (ms_Cl d y as (ms_m h M t)) K := by
  obtain ⟨r, g', ⟨Y, hf, e1, e2, hp⟩, hc⟩ := hh
  rw [e1, e2] at hc
  exact ms_c0_i hc (hk Y hf hp)
theorem MX_E (w : MX A M) (he : ab_e A < 120) (hp : p < ab_p A) (ht : y < ab_t A) (hf : ∀ i, F i < 10000) (hc : cl < 10000) (hl : (ab_l A p).length < 12) : MX (wAE A p y F cl) (md_addE M (ab_e A) (nI p) (nI y) (nI (F 0)) (nI (F 1)) (nI (F 2)) (nI (F 3)) (nI cl)) := by
  refine ⟨ab_w_E w.1 he hp ht hf hc hl, ?_⟩
  refine RM_E w.2 w.1 he md_a_at ⟨?_, ?_, ?_, ?_, ?_, ?_, ?_⟩ (fun m m0 hm => ?_)
  all_goals unfold md_addE md_lay
  all_goals simp only [md_a_ua, md_a_ui, true_and]
  · rw [if_neg (by omega), if_neg (by omega), if_neg (by omega), if_neg (by omega), if_neg (by omega), if_neg (by omega), if_neg (by omega), if_pos trivial]
  · rw [if_neg (by omega), if_neg (by omega), if_neg (by omega), if_neg (by omega), if_neg (by omega), if_neg (by omega), if_pos trivial]
  · rw [if_neg (by omega), if_neg (by omega), if_neg (by omega), if_neg (by omega), if_neg (by omega), if_pos trivial]
  · rw [if_neg (by omega), if_neg (by omega), if_neg (by omega), if_neg (by omega), if_pos (by first | omega | trivial)]
  · rw [if_neg (by omega), if_neg (by omega), if_neg (by omega), if_pos (by first | omega | trivial)]
  · rw [if_neg (by omega), if_neg (by omega), if_pos (by first | omega | trivial)]
  · rw [if_neg (by omega), if_pos (by first | omega | trivial)]
  · rw [if_neg (by omega), if_neg (by omega), if_neg (by omega), if_neg (by omega), if_neg (by omega), if_neg (by omega), if_neg (by omega), if_neg (by omega)]
theorem MX_P (w : MX A M) (hp : ab_p A < 16) (hy : y < 400) (hc : c < 400) (hd : n < 400) : MX (wAP A y c n) (md_addP M (ab_p A) (nI y) (nI c) (nI n)) := by
  refine ⟨ab_w_P w.1 hp hy hc hd, ?_⟩
  refine RM_P w.2 w.1 hp md_a_at ⟨?_, ?_, ?_⟩ (fun m m0 hm => ?_)
  all_goals unfold md_addP
  all_goals simp only [md_a_ua, md_a_ui, true_and]
  · rw [if_neg (by omega), if_neg (by omega), if_neg (by omega), if_pos trivial]
  · rw [if_neg (by omega), if_neg (by omega), if_pos trivial]
  · rw [if_neg (by omega), if_pos (by first | omega | trivial)]
  · rw [if_neg (by omega), if_neg (by omega), if_neg (by omega), if_neg (by omega)]
theorem ev_l {a b : Nat} (ha : a < 10000) (hb : b < 10000) : (nI a * 7 + nI b) - (nI a * 7 + nI b) / 10000 * 10000 = nI ((a * 7 + b) % 10000) := by
  rw [show nI a * 7 = nI (a * 7) from nI_mul _ 7, ms_p1]
  exact nI_rem (b := 10000) (by omega) (by decide) (by decide)
theorem ei_l : (106 + 7 * nI e) + 2 + nI f = nI (106 + 7 * e + 2 + f) := by
  rw [show (7 : Int32) * nI e = nI (7 * e) from nI_mul 7 _, show (106 : Int32) + nI (7 * e) = nI (106 + 7 * e) from ms_p1 _, show nI (106 + 7 * e) + 2 = nI (106 + 7 * e + 2) from ms_p1 2, ms_p1]
theorem n_slipe (w : MX A N) (he : e < ab_e A) (f4 : f < 4) (hv : x < 10000) : mfr N (md_ua (md_ul N 50 (dL s)) 3 (106 + 7 * e + 2 + f) (nI x)) ∧ MX (wAS A e f x) (md_ua (md_ul N 50 (dL s)) 3 (106 + 7 * e + 2 + f) (nI x)) ∧ md_l (md_ua (md_ul N 50 (dL s)) 3 (106 + 7 * e + 2 + f) (nI x)) 50 = dL s ∧ ∀ i, md_a (md_ua (md_ul N 50 (dL s)) 3 (106 + 7 * e + 2 + f) (nI x)) 51 i = md_a N 51 i := by
  have hw := w.1.1.2.2.1
  refine ⟨mfr_t mfr_l (mfr_3 (by omega)), ⟨ab_w_S w.1 hv, ?_⟩, ?_, fun i => ?_⟩
  · refine RM_S (r := md_a N 3) w.2 w.1 he f4 md_a_at (fun m hm => ?_)
    rw [md_a_ne hm]
    rfl
  · rw [md_l_ua]
    exact md_l_at
  · rw [md_a_fun (by decide)]
    rfl
theorem n_slipw {Q : Option Value → ms_S → Prop} (w : MX A N) (he : e < ab_e A) (he2 : e < 120) (h50 : md_l N 50 = dL s) (hs : s < 1000003) (hQ : ∀ L fi s2 v, fi = dr s % 4 → s2 = dr (dr s) → v = (ab_en A e (2 + fi) * 7 + s2 % 10000) % 10000 → mfr N L → MX (wAS A e fi v) L → md_l L 50 = dL s2 → (∀ i, md_a L 51 i = md_a N 51 i) → Q none (ms_m h L t)) : ms_c1 (ms_Cl (d + 3) 249 [.ref h.length, .int 4] (ms_m h N t)) fun r21 g20 => ms_oR (ms_fldR g20 h.length 9 3) fun x22 => ms_c1 (ms_Cl (d + 3) 151 [.int (nI e)] g20) fun r24 g23 => ms_c1 (ms_Cl (d + 3) 154 [.ref h.length, .int (nI e), .int r21] g23) fun r26 g25 => ms_c1 (ms_Cl (d + 3) 249 [.ref h.length, .int 10000] g25) fun r28 g27 => ¬ 10000 = (0 : Int32) ∧ ms_wI g27 x22 ((r24 + 2) + r21) (((r26 * 7) + r28) - ((r26 * 7) + r28) / 10000 * 10000) fun g29 => Q none g29 := by
  have d1 := dr_lt (s := s)
  have d2 := dr_lt (s := dr s)
  have f4 : dr s % 4 < 4 := Nat.mod_lt _ (by decide)
  refine ms_c1_i (n_draw (d := d + 2) (n := 4) h50 hs (by decide) (by decide)) ?_
  have w3 : MX A (md_ul N 50 (dL (dr s))) := w
  have f3 : mfr N (md_ul N 50 (dL (dr s))) := mfr_l
  have hl3 : md_l (md_ul N 50 (dL (dr s))) 50 = dL (dr s) := md_l_at
  have i3 : ∀ i, md_a (md_ul N 50 (dL (dr s))) 51 i = md_a N 51 i := fun i => rfl
  generalize md_ul N 50 (dL (dr s)) = N3 at w3 f3 hl3 i3 ⊢
  have hQ2 := fun L v => hQ L (dr s % 4) (dr (dr s)) v rfl rfl
  clear hQ
  generalize dr s % 4 = fi at f4 hQ2 ⊢
  have hv := w.1.2.2.2.1 e (2 + fi)
  generalize dr s = s1 at d1 d2 hl3 hQ2 ⊢
  refine ms_oR_i mm_f3 (ms_c1_i c9_entryAt (ms_c1_i (n_fieldOf w3 he f4) (ms_c1_i (n_draw (d := d + 2) (n := 10000) hl3 d1 (by decide) (by decide)) ⟨by decide, ?_⟩)))
  generalize dr s1 = s2 at d2 hQ2 ⊢
  have f10 : s2 % 10000 < 10000 := Nat.mod_lt _ (by decide)
  rw [ev_l hv f10, ei_l, mm_w3]
  refine ⟨ms_in (by omega) (by decide), ?_⟩
  rw [ms_nc (by omega)]
  have hv2 : (ab_en A e (2 + fi) * 7 + s2 % 10000) % 10000 < 10000 := Nat.mod_lt _ (by decide)
  have hQ3 := fun L => hQ2 L _ rfl
  clear hQ2
  generalize (ab_en A e (2 + fi) * 7 + s2 % 10000) % 10000 = v at hv2 hQ3 ⊢
  obtain ⟨q1, q2, q3, q4⟩ := n_slipe (s := s2) w3 he f4 hv2
  exact hQ3 _ (mfr_t f3 q1) q2 q3 (fun i => (q4 i).trans (i3 i))
theorem n_tail (w : MX (gA1 A k y og) N) (hA : ab_e A < 64) (h50 : md_l N 50 = dL s) (hs : s < 1000003) (h51 : ∀ i, i < ab_e A → md_a N 51 i = or_I (mf i)) (hf : mfr M N) : ms_oR (ms_fldR (ms_m h N t) h.length 9 51) fun x16 => ms_wI (ms_m h N t) x16 (nI (ab_e A)) (or_I og) fun g17 => ms_c1 (ms_Cl (d + 3) 249 [.ref h.length, .int 6] g17) fun r19 g18 => if r19 = 0 then (ms_c1 (ms_Cl (d + 3) 249 [.ref h.length, .int 4] g18) fun r21 g20 => ms_oR (ms_fldR g20 h.length 9 3) fun x22 => ms_c1 (ms_Cl (d + 3) 151 [.int (nI (ab_e A))] g20) fun r24 g23 => ms_c1 (ms_Cl (d + 3) 154 [.ref h.length, .int (nI (ab_e A)), .int r21] g23) fun r26 g25 => ms_c1 (ms_Cl (d + 3) 249 [.ref h.length, .int 10000] g25) fun r28 g27 => ¬ 10000 = (0 : Int32) ∧ ms_wI g27 x22 ((r24 + 2) + r21) (((r26 * 7) + r28) - ((r26 * 7) + r28) / 10000 * 10000) fun g29 => gNW h M t (GM (gE2 A mf k y og s)) none g29) else (gNW h M t (GM (gE2 A mf k y og s)) none g18) := by
  have hen : ab_e A < ab_e (gA1 A k y og) := Nat.lt_succ_self _
  have hwn := w.1.1.2.2.1
  have d1 := dr_lt (s := s)
  have m6 : dr s % 6 < 6 := Nat.mod_lt _ (by decide)
  simp only [ms_oR_e, ms_oI_e, ms_oL_e, mm_f51, mm_r51, mm_w51]
  refine ⟨ms_in hA (by decide), ?_⟩
  rw [ms_nc (by omega)]
  have i51 : ∀ i, i < ab_e A + 1 → md_a (md_ua N 51 (ab_e A) (or_I og)) 51 i = or_I (gM1 A mf og i) := by
    intro i hi
    unfold gM1
    by_cases hie : i = ab_e A
    · rw [if_pos hie, hie, md_a_at]
    · rw [if_neg hie, md_a_ne hie]
      exact h51 i (by omega)
  have w1 : MX (gA1 A k y og) (md_ua N 51 (ab_e A) (or_I og)) := by
    refine ⟨w.1, ?_⟩
    rw [md_a_fun (by decide)]
    exact w.2
  have hf1 : mfr M (md_ua N 51 (ab_e A) (or_I og)) := mfr_t hf mfr_51
  have h50' : md_l (md_ua N 51 (ab_e A) (or_I og)) 50 = dL s := h50
  generalize md_ua N 51 (ab_e A) (or_I og) = N1 at i51 w1 hf1 h50' ⊢
  refine ms_c1_i (n_draw (d := d + 2) (n := 6) h50' hs (by decide) (by decide)) ?_
  unfold gE2
  have w2 : MX (gA1 A k y og) (md_ul N1 50 (dL (dr s))) := w1
  have f2 : mfr M (md_ul N1 50 (dL (dr s))) := mfr_t hf1 mfr_l
  have l2 : md_l (md_ul N1 50 (dL (dr s))) 50 = dL (dr s) := md_l_at
  have i2 : ∀ i, i < ab_e A + 1 → md_a (md_ul N1 50 (dL (dr s))) 51 i = or_I (gM1 A mf og i) := i51
  generalize md_ul N1 50 (dL (dr s)) = N2 at w2 f2 l2 i2 ⊢
  generalize dr s = s1 at m6 d1 l2 ⊢
  generalize s1 % 6 = q6 at m6 ⊢
  refine ms_ite2 (fun z => ?_) (fun z => ?_) <;> rw [show (0 : Int32) = nI 0 from rfl, ms_nI_eq (by omega) (by omega)] at z
  · rw [if_pos z]
    refine n_slipw w2 hen (by omega) l2 d1 (fun L fi s2 v e1 e2 e3 hf3 w3 l3 i3 => ?_)
    rw [← e2, ← e1, ← e3]
    exact ⟨L, mfr_t f2 hf3, rfl, rfl, w3, l3, fun i hi => (i3 i).trans (i2 i hi)⟩
  · rw [if_neg z]
    exact ⟨N2, f2, rfl, rfl, w2, l2, i2⟩
end Wn
