/-! THE MODEL'S lookBy; written by wip/whole/mdl.py from f_lkn.txt -/
def muq (A : ab_T) (p : Nat) (S : List Nat) (x i : Nat) : Nat := min (q_lk A p i) (q_lm A p S x i)
def PJ (A : ab_T) (p : Nat) (S : List Nat) (x sp j e k : Nat) : Prop := ∃ s, ab_ch A p S x j k s ∧ s + sp = e + sm (muq A p S x) j
def PX (A : ab_T) (p : Nat) (S : List Nat) (X e k : Nat) : Prop := ∃ x s, x < X ∧ ab_ch A p S x (ab_l A p).length k s ∧ ck_o (q_op A p S) x S.length + s = (lb A p S).1 + e
def noR (_ _ : Nat) : Prop := False
def gbit (A : ab_T) (p i : Nat) : Nat := if q_gh A p i then 0 else 1
section Lkn
variable {d b i j k n p o e f u v x y s r c day m sp : Nat} {h t : ms_S} {M N L : md_T} {S' S2 : Nat → Bool} {A : ab_T} {S : List Nat}
theorem MC_fr (hC : MC A p S M) (f : md_fr S' M N) (hS : ∀ k, 30 ≤ k → k ≤ 37 → S' k = false) : MC A p S N := by
  refine ⟨⟨MSo_fr hC.1.1 f (hS 30 (by omega) (by omega)) (hS 31 (by omega) (by omega)) (hS 32 (by omega) (by omega)), fun i hi => ?_⟩, ?_⟩
  · have := hC.1.2 i hi
    rw [mr_a3 f (hS 34 (by omega) (by omega)), mr_a3 f (hS 35 (by omega) (by omega)), mr_a3 f (hS 36 (by omega) (by omega)), mr_a3 f (hS 37 (by omega) (by omega))]
    exact this
  · rw [(f 33 (hS 33 (by omega) (by omega))).1]
    exact hC.2
theorem nI_subk (h : k ≤ n) : nI n - nI k = nI (n - k) := by
  have := ms_p1 (p := n - k) k
  rw [show n - k + k = n by omega] at this
  rw [← this, Int32.add_sub_cancel]
theorem PJ_look (h : ab_ch A p S x j k s) (e2 : s + q_lk A p j + sp = e + sm (muq A p S x) (j + 1)) : q_lk A p j - muq A p S x j ≤ e ∧ PJ A p S x sp j (e - (q_lk A p j - muq A p S x j)) k := by
  have h1 : sm (muq A p S x) j ≤ s := ch_ge _ _ _ h
  have h2 : sm (muq A p S x) (j + 1) = sm (muq A p S x) j + muq A p S x j := rfl
  have h3 : muq A p S x j ≤ q_lk A p j := Nat.min_le_left _ _
  exact ⟨by omega, s, h, by omega⟩
theorem PJ_lift (h : ab_ch A p S x j k s) (e2 : s + q_lm A p S x j + sp = e + sm (muq A p S x) (j + 1)) : q_lm A p S x j - muq A p S x j ≤ e ∧ PJ A p S x sp j (e - (q_lm A p S x j - muq A p S x j)) k := by
  have h1 : sm (muq A p S x) j ≤ s := ch_ge _ _ _ h
  have h2 : sm (muq A p S x) (j + 1) = sm (muq A p S x) j + muq A p S x j := rfl
  have h3 : muq A p S x j ≤ q_lm A p S x j := Nat.min_le_right _ _
  exact ⟨by omega, s, h, by omega⟩
theorem PJ_dlook (h : PJ A p S x sp j (e - (q_lk A p j - muq A p S x j)) k) (he : q_lk A p j - muq A p S x j ≤ e) : PJ A p S x sp (j + 1) e (k + gbit A p j) := by
  obtain ⟨s, h1, h2⟩ := h
  have h3 : muq A p S x j ≤ q_lk A p j := Nat.min_le_left _ _
  have h4 : sm (muq A p S x) (j + 1) = sm (muq A p S x) j + muq A p S x j := rfl
  exact ⟨s + q_lk A p j, Or.inl ⟨k, s, h1, rfl, rfl⟩, by omega⟩
theorem PJ_dlift (h : PJ A p S x sp j (e - (q_lm A p S x j - muq A p S x j)) k) (he : q_lm A p S x j - muq A p S x j ≤ e) (hn : q_lm A p S x j ≠ NW) : PJ A p S x sp (j + 1) e k := by
  obtain ⟨s, h1, h2⟩ := h
  have h3 : muq A p S x j ≤ q_lm A p S x j := Nat.min_le_right _ _
  have h4 : sm (muq A p S x) (j + 1) = sm (muq A p S x) j + muq A p S x j := rfl
  exact ⟨s + q_lm A p S x j, Or.inr ⟨hn, s, h1, rfl⟩, by omega⟩
theorem PJ_n (hn : q_lm A p S x j = NW) : ∀ e, e < 41 → ∀ k, spR (PJ A p S x sp j) noR (q_lk A p j - muq A p S x j) (gbit A p j) 41 e k ↔ PJ A p S x sp (j + 1) e k := by
  intro e he k
  constructor
  · rintro (hk | ⟨h1, _, a, ha, rfl⟩)
    · exact hk.elim
    · exact PJ_dlook ha h1
  · rintro ⟨s, (⟨k', s', h1, h2, h3⟩ | ⟨h1, _⟩), h4⟩
    · obtain ⟨g1, g2⟩ := PJ_look (e := e) (sp := sp) h1 (by rw [← h3]; exact h4)
      exact Or.inr ⟨g1, by omega, k', g2, h2⟩
    · exact absurd hn h1
theorem PJ_s (hn : q_lm A p S x j ≠ NW) : ∀ e, e < 41 → ∀ k, spR (PJ A p S x sp j) (spR (PJ A p S x sp j) noR (q_lk A p j - muq A p S x j) (gbit A p j) 41) (q_lm A p S x j - muq A p S x j) 0 41 e k ↔ PJ A p S x sp (j + 1) e k := by
  intro e he k
  constructor
  · rintro ((hk | ⟨h1, _, a, ha, rfl⟩) | ⟨h1, _, a, ha, rfl⟩)
    · exact hk.elim
    · exact PJ_dlook ha h1
    · exact PJ_dlift ha h1 hn
  · rintro ⟨s, (⟨k', s', h1, h2, h3⟩ | ⟨_, s', h1, h3⟩), h4⟩
    · obtain ⟨g1, g2⟩ := PJ_look (e := e) (sp := sp) h1 (by rw [← h3]; exact h4)
      exact Or.inl (Or.inr ⟨g1, by omega, k', g2, h2⟩)
    · obtain ⟨g1, g2⟩ := PJ_lift (e := e) (sp := sp) h1 (by rw [← h3]; exact h4)
      exact Or.inr ⟨g1, by omega, k, g2, rfl⟩
theorem PX_s (h : sp + (lb A p S).1 = q_s A p S x) : ∀ k, (PX A p S x e k ∨ PJ A p S x sp (ab_l A p).length e k) ↔ PX A p S (x + 1) e k := by
  intro k
  have hq : q_s A p S x = ck_o (q_op A p S) x S.length + sm (muq A p S x) (ab_l A p).length := rfl
  constructor
  · rintro (⟨y, s, h1, h2, h3⟩ | ⟨s, h2, h3⟩)
    · exact ⟨y, s, by omega, h2, h3⟩
    · exact ⟨x, s, by omega, h2, by omega⟩
  · rintro ⟨y, s, h1, h2, h3⟩
    by_cases hy : y = x
    · subst hy
      exact Or.inr ⟨s, h2, by omega⟩
    · exact Or.inl ⟨y, s, by omega, h2, h3⟩
theorem PX_n (h : (lb A p S).1 + 40 < q_s A p S x) (he : e < 41) : ∀ k, PX A p S x e k ↔ PX A p S (x + 1) e k := by
  intro k
  have hq : q_s A p S x = ck_o (q_op A p S) x S.length + sm (muq A p S x) (ab_l A p).length := rfl
  constructor
  · rintro ⟨y, s, h1, h2, h3⟩
    exact ⟨y, s, by omega, h2, h3⟩
  · rintro ⟨y, s, h1, h2, h3⟩
    by_cases hy : y = x
    · subst hy
      have : sm (muq A p S y) (ab_l A p).length ≤ s := ch_ge _ _ _ h2
      omega
    · exact ⟨y, s, by omega, h2, h3⟩
theorem PJ_k (h : PJ A p S x sp j e k) : k ≤ j := by
  obtain ⟨s, h1, _⟩ := h
  exact ch_k _ _ _ h1
theorem PX_k (h : PX A p S x e k) : k ≤ (ab_l A p).length := by
  obtain ⟨y, s, _, h1, _⟩ := h
  exact ch_k _ _ _ h1
theorem n_lookBy (w : MX A M) (hp : p < ab_p A) (hC : MC A p S M) (hx : x < 2 ^ S.length) (hsp : sp + (lb A p S).1 = q_s A p S x) (hs40 : sp ≤ 40) (h46 : AF M 46 (PX A p S x)) (h47 : AM M 47 12 (PX A p S x)) : ms_H' (d + 3) 239 [.ref h.length, .int (nI x), .int (nI sp)] (ms_m h M t) (gN g47 h M t (fun N => AF N 46 (PX A p S (x + 1)) ∧ AM N 47 12 (PX A p S (x + 1)))) := by
  have hn := w.1.2.2.2.2.2 p
  have h9 := hC.1.1.2.1
  have h512 := pw_512 h9 hx
  have hS : ∀ k, 30 ≤ k → k ≤ 37 → g47 k = false := fun k h1 h2 => decide_eq_false (by omega)
  have g43_7 : ∀ c, g47 c = false → g43 c = false := fun c hc => decide_eq_false (fun z => of_decide_eq_false hc (by omega))
  have g45_7 : ∀ c, g47 c = false → g45 c = false := fun c hc => decide_eq_false (fun z => of_decide_eq_false hc (by omega))
  refine mx_m (fun a b c => m_X9_lookBy a b ⟨_, ms_m_0⟩ c) gN_l (b_X9_lookBy_0 ?_)
  -- the end: what this choice gives is taken into the paper's
  have last : ∀ r i N, i + r = 41 → md_fr g47 M N → AF N 42 (PJ A p S x sp (ab_l A p).length) → AM N 43 12 (PJ A p S x sp (ab_l A p).length) → AF N 46 (fun e k => PX A p S x e k ∨ (e < i ∧ PJ A p S x sp (ab_l A p).length e k)) → AM N 47 12 (fun e k => PX A p S x e k ∨ (e < i ∧ PJ A p S x sp (ab_l A p).length e k)) → ms_V cd_X9_lookBy none 0 (ms_Cl (d + 2)) (gN g47 h M t (fun N => AF N 46 (PX A p S (x + 1)) ∧ AM N 47 12 (PX A p S (x + 1)))) 153 [(0, .ref h.length), (3, .int (nI i))] [] (ms_m h N t) := by
    intro r
    induction r with
    | zero =>
      intro i N hi hf a2 a3 a6 a7
      have e : i = 41 := by omega
      subst e
      have iff : ∀ e, e < 41 → ∀ k, (PX A p S x e k ∨ (e < 41 ∧ PJ A p S x sp (ab_l A p).length e k)) ↔ PX A p S (x + 1) e k := fun e he k => by
        rw [← PX_s hsp]
        exact or_congr Iff.rfl ⟨fun z => z.2, fun z => ⟨he, z⟩⟩
      exact b_X9_lookBy_153 (ms_yes (by decide) ⟨N, hf, rfl, rfl, AF_i a6 iff, AM_i a7 iff (Nat.le_refl _)⟩)
    | succ r ih =>
      intro i N hi hf a2 a3 a6 a7
      refine b_X9_lookBy_153 (ms_no (fun z => by rw [show (40 : Int32) = nI 40 from rfl, ms_nlt (by omega) (by omega)] at z; omega) ?_)
      obtain ⟨n1, b2, w1⟩ := a2 i (by omega)
      obtain ⟨y1, b3, v1⟩ := a3 i (by omega)
      obtain ⟨n0, b6, w0⟩ := a6 i (by omega)
      obtain ⟨y0, b7, v0⟩ := a7 i (by omega)
      have r1 := FW_rg w1
      have r0 := FW_rg w0
      have q1 := MS_rg v1 (by omega)
      have q0 := MS_rg v0 (by omega)
      have iff : ∀ k, ((PX A p S x i k ∨ (i < i ∧ PJ A p S x sp (ab_l A p).length i k)) ∨ ∃ a c, PJ A p S x sp (ab_l A p).length i a ∧ c = 0 ∧ k = a + c) ↔ (PX A p S x i k ∨ (i < i + 1 ∧ PJ A p S x sp (ab_l A p).length i k)) := by
        intro k
        constructor
        · rintro ((hk | ⟨hk, _⟩) | ⟨a, c, ha, hc, hk⟩)
          · exact Or.inl hk
          · omega
          · exact Or.inr ⟨by omega, by rw [show k = a by omega]; exact ha⟩
        · rintro (hk | ⟨_, hk⟩)
          · exact Or.inl (Or.inl hk)
          · exact Or.inr ⟨k, 0, hk, rfl, rfl⟩
      have oth : ∀ e, e ≠ i → ∀ k, (PX A p S x e k ∨ (e < i ∧ PJ A p S x sp (ab_l A p).length e k)) ↔ (PX A p S x e k ∨ (e < i + 1 ∧ PJ A p S x sp (ab_l A p).length e k)) := fun e he k => or_congr Iff.rfl (and_congr ⟨fun _ => by omega, fun _ => by omega⟩ Iff.rfl)
      have W := FW_i (FW_add w0 w1 (FW_1 (b := 0) (by omega)) (fun a c ha hc => by have := PJ_k ha; omega)) iff
      have V := MS_i (MS_add (D := 12) v0 v1 (MS_1 (D := 0) (b := 0) (by omega)) (fun a c ha hc => by have := PJ_k ha; omega) (Nat.le_refl _) (fun c hc => by omega) (fun hn => absurd rfl (hn 0)) (by omega) (by omega)) iff
      have fin : ∀ v w, v = nI (min n0 (n1 + 0)) → w = iI (max y0 (y1 + (0 : Nat))) → ms_V cd_X9_lookBy none 0 (ms_Cl (d + 2)) (gN g47 h M t (fun N => AF N 46 (PX A p S (x + 1)) ∧ AM N 47 12 (PX A p S (x + 1)))) 153 [(0, .ref h.length), (3, .int (nI (i + 1)))] [] (ms_m h (md_ua (md_ua N 46 i v) 47 i w) t) := by
        intro v w hv hw
        rw [hv, hw]
        refine ih (i + 1) _ (by omega) (mr_a (mr_a hf (by decide)) (by decide)) ?_ ?_ ?_ ?_
        · exact AF_e a2 (fun k _ => by rw [md_a_fun (by decide), md_a_fun (by decide)])
        · exact AM_e a3 (fun k _ => by rw [md_a_fun (by decide), md_a_fun (by decide)])
        · exact AF_e (AF_w (R2 := fun e k => PX A p S x e k ∨ (e < i + 1 ∧ PJ A p S x sp (ab_l A p).length e k)) a6 W oth) (fun k _ => by rw [md_a_fun (by decide)])
        · exact AM_w (R2 := fun e k => PX A p S x e k ∨ (e < i + 1 ∧ PJ A p S x sp (ab_l A p).length e k)) (AM_e a7 (fun k _ => by rw [md_a_fun (by decide)])) V oth (Nat.le_refl _)
      simp only [ms_oR_e, ms_oI_e, ms_oL_e, mm_f42, mm_r42, mm_w42, mm_f43, mm_r43, mm_w43, mm_f46, mm_r46, mm_w46, mm_f47, mm_r47, mm_w47]
      refine ⟨ms_in (by omega) (by decide), ms_in (by omega) (by decide), ?_⟩
      rw [ms_nc (by omega), b2, b6, show nI i + 1 = nI (i + 1) from ms_p1 1, md_a_fun (by decide), md_a_fun (by decide), md_a_fun (by decide), md_a_fun (by decide), b3, b7]
      refine ms_ite2 (fun z1 => ?_) (fun z1 => ?_) <;> rw [ms_nle (by omega) (by omega)] at z1
      · refine ⟨ms_in (by omega) (by decide), ms_in (by omega) (by decide), ms_in (by omega) (by decide), ms_in (by omega) (by decide), ?_⟩
        refine ms_ite2 (fun z2 => ?_) (fun z2 => ?_) <;> rw [iI_le (by omega) (by omega) (by omega) (by omega)] at z2
        · refine ⟨ms_in (by omega) (by decide), ms_in (by omega) (by decide), fin _ _ ?_ ?_⟩
          · rw [Nat.min_eq_left (by omega)]
          · rw [Int.max_eq_left (by omega)]
        · refine ⟨ms_in (by omega) (by decide), ms_in (by omega) (by decide), fin _ _ ?_ ?_⟩
          · rw [Nat.min_eq_left (by omega)]
          · rw [Int.max_eq_right (by omega)]; exact congrArg iI (show y1 = y1 + ((0 : Nat) : Int) by omega)
      · refine ⟨ms_in (by omega) (by decide), ms_in (by omega) (by decide), ms_in (by omega) (by decide), ms_in (by omega) (by decide), ?_⟩
        refine ms_ite2 (fun z2 => ?_) (fun z2 => ?_) <;> rw [iI_le (by omega) (by omega) (by omega) (by omega)] at z2
        · refine ⟨ms_in (by omega) (by decide), ms_in (by omega) (by decide), fin _ _ ?_ ?_⟩
          · rw [Nat.min_eq_right (by omega)]; rfl
          · rw [Int.max_eq_left (by omega)]
        · refine ⟨ms_in (by omega) (by decide), ms_in (by omega) (by decide), fin _ _ ?_ ?_⟩
          · rw [Nat.min_eq_right (by omega)]; rfl
          · rw [Int.max_eq_right (by omega)]; exact congrArg iI (show y1 = y1 + ((0 : Nat) : Int) by omega)
  -- the places
  have places : ∀ r i N, i + r = (ab_l A p).length → md_fr g47 M N → AF N 42 (PJ A p S x sp i) → AM N 43 i (PJ A p S x sp i) → AF N 46 (PX A p S x) → AM N 47 12 (PX A p S x) → ms_V cd_X9_lookBy none 0 (ms_Cl (d + 2)) (gN g47 h M t (fun N => AF N 46 (PX A p S (x + 1)) ∧ AM N 47 12 (PX A p S (x + 1)))) 52 [(0, .ref h.length), (1, .int (nI x)), (3, .int (nI i))] [] (ms_m h N t) := by
    intro r
    induction r with
    | zero =>
      intro i N hi hf a2 a3 a6 a7
      have e : i = (ab_l A p).length := by omega
      subst e
      refine b_X9_lookBy_52 (ms_oI_i mm_f33 ?_)
      rw [(hf 33 (by decide)).1, hC.2]
      refine ms_yes ((ms_nle (by omega) (by omega)).mpr (Nat.le_refl _)) ?_
      have iff : ∀ e, e < 41 → ∀ k, PX A p S x e k ↔ (PX A p S x e k ∨ (e < 0 ∧ PJ A p S x sp (ab_l A p).length e k)) := fun e he k => ⟨Or.inl, fun z => z.elim id (fun z => absurd z.1 (Nat.not_lt_zero _))⟩
      exact last 41 0 N rfl hf a2 (AM_i a3 (fun _ _ _ => Iff.rfl) hn) (AF_i a6 iff) (AM_i a7 iff (Nat.le_refl _))
    | succ r ih =>
      intro i N hi hf a2 a3 a6 a7
      have hCN : MC A p S N := MC_fr hC hf hS
      have hin : i < (ab_l A p).length := by omega
      have hmu : muq A p S x i = min (q_lk A p i) (ck_m (q_lf A p S i) x S.length) := rfl
      have hlm : q_lm A p S x i = ck_m (q_lf A p S i) x S.length := rfl
      have hq := q_lk_le (A := A) (p := p) (i := i)
      have hcm : ck_m (q_lf A p S i) x S.length ≤ NW := ck_m_le _
      have hPk : ∀ e k, PJ A p S x sp i e k → k ≤ 900 := fun e k hk => by have := PJ_k hk; omega
      unfold NW at hcm
      refine b_X9_lookBy_52 (ms_oI_i mm_f33 ?_)
      rw [hCN.2]
      refine ms_no (fun z => by rw [ms_nle (by omega) (by omega)] at z; omega) ?_
      refine ms_c1_i (n_costOf hCN hn hin (by omega)) (ms_c1_i (n_bestSource (d := d + 1) hCN hn hin (by omega)) ?_)
      rw [← hmu]
      have bok := bs_ok (l := q_lf A p S i) (x := x) (fun s => q_lf_le) S.length
      refine my_n0 (n_clearNext (d := d + 1)) (fun N1 f1 ⟨c4, c5⟩ => ?_)
      have hf1 : md_fr g47 M N1 := mr_t hf (mr_s f1 g45_7)
      have hC1 : MC A p S N1 := MC_fr hC hf1 hS
      have b2 : AF N1 42 (PJ A p S x sp i) := AF_e a2 (fun k _ => by rw [mr_a3 f1 (by decide)])
      have b3 : AM N1 43 i (PJ A p S x sp i) := AM_e a3 (fun k _ => by rw [mr_a3 f1 (by decide)])
      have b6 : AF N1 46 (PX A p S x) := AF_e a6 (fun k _ => by rw [mr_a3 f1 (by decide)])
      have b7 : AM N1 47 12 (PX A p S x) := AM_e a7 (fun k _ => by rw [mr_a3 f1 (by decide)])
      have hw1 : MX A N1 := w.fr hf1 (by decide)
      obtain ⟨k1, k2, k3⟩ := hC1.1.2 i hin
      have hqe := q_e_lt hin
      have hth := (w.1.2.2.2.2.1 _ hqe.1).2
      simp only [ms_oR_e, ms_oI_e, ms_oL_e, mm_f34, mm_r34, mm_w34, mm_f35, mm_r35, mm_w35]
      refine ⟨ms_in (by omega) (by decide), ms_in (by omega) (by decide), ?_⟩
      rw [ms_nc (by omega), k1, k2, nI_subk (by omega), show nI i + 1 = nI (i + 1) from ms_p1 1]
      refine ms_c1_i (n_thingOf hw1 hqe.1) (ms_c1_i (n_isGhost hw1 hth) ?_)
      -- after the first
      have rest : ms_c0 (ms_Cl (d + 2) 237 [.ref h.length, .int (nI (q_lk A p i - muq A p S x i)), .int (nI (gbit A p i))] (ms_m h N1 t)) fun g15 => if bsI (bs (q_lf A p S i) x S.length) = (-1) then (ms_c0 (ms_Cl (d + 2) 238 [.ref h.length] g15) fun g16 => ms_V cd_X9_lookBy none 0 (ms_Cl (d + 2)) (gN g47 h M t (fun N => AF N 46 (PX A p S (x + 1)) ∧ AM N 47 12 (PX A p S (x + 1)))) 52 [(0, .ref h.length), (1, .int (nI x)), (3, .int (nI (i + 1)))] [] g16) else (ms_oR (ms_fldR g15 h.length 9 36) fun x17 => ms_rI g15 x17 0 ((9 * nI i) + bsI (bs (q_lf A p S i) x S.length)) fun x18 => ms_c0 (ms_Cl (d + 2) 237 [.ref h.length, .int (x18 - nI (muq A p S x i)), .int 0] g15) fun g19 => ms_c0 (ms_Cl (d + 2) 238 [.ref h.length] g19) fun g20 => ms_V cd_X9_lookBy none 0 (ms_Cl (d + 2)) (gN g47 h M t (fun N => AF N 46 (PX A p S (x + 1)) ∧ AM N 47 12 (PX A p S (x + 1)))) 52 [(0, .ref h.length), (1, .int (nI x)), (3, .int (nI (i + 1)))] [] g20) := by
        have hgb : gbit A p i ≤ 1 := by unfold gbit; split <;> omega
        refine my_n0 (n_spend (d := d + 1) (D2 := i + 1) (R2 := noR) b2 b3 c4 c5 hgb hPk (by omega) (by omega) (by omega) (by omega)) (fun N2 f2 ⟨c4, c5⟩ => ?_)
        have hf2 : md_fr g47 M N2 := mr_t hf1 (mr_s f2 g45_7)
        have hC2 : MC A p S N2 := MC_fr hC hf2 hS
        have d2 : AF N2 42 (PJ A p S x sp i) := AF_e b2 (fun k _ => by rw [mr_a3 f2 (by decide)])
        have d3 : AM N2 43 i (PJ A p S x sp i) := AM_e b3 (fun k _ => by rw [mr_a3 f2 (by decide)])
        have d6 : AF N2 46 (PX A p S x) := AF_e b6 (fun k _ => by rw [mr_a3 f2 (by decide)])
        have d7 : AM N2 47 12 (PX A p S x) := AM_e b7 (fun k _ => by rw [mr_a3 f2 (by decide)])
        cases hb : bs (q_lf A p S i) x S.length with
        | none =>
          rw [hb] at bok
          refine ms_yes rfl (my_n0 (n_takeNext (d := d + 1)) (fun N3 f3 c => ?_))
          refine ih (i + 1) N3 (by omega) (mr_t hf2 (mr_s f3 g43_7)) ?_ ?_ ?_ ?_
          · exact AF_i (AF_e (q := 44) c4 (fun k hk => (c k hk).1)) (PJ_n bok.1)
          · exact AM_i (AM_e (q := 45) c5 (fun k hk => (c k hk).2)) (PJ_n bok.1) (Nat.le_refl _)
          · exact AF_e d6 (fun k _ => by rw [mr_a3 f3 (by decide)])
          · exact AM_e d7 (fun k _ => by rw [mr_a3 f3 (by decide)])
        | some s =>
          rw [hb] at bok
          obtain ⟨o1, o2, o3, o4, _⟩ := bok
          have hne : q_lm A p S x i ≠ NW := by rw [hlm, ← o3]; omega
          refine ms_no (nI_m1 (x := s) (by omega)) ?_
          simp only [ms_oR_e, ms_oI_e, ms_oL_e, mm_f36, mm_r36, mm_w36]
          rw [show bsI (some s) = nI s from rfl, nI_p9]
          refine ⟨ms_in (by omega) (by decide), ?_⟩
          unfold NW at o4
          rw [ms_nc (by omega), mlf_ne hC2 hin o1 (by unfold NW; omega), o3, ← hlm, nI_subk (show muq A p S x i ≤ q_lm A p S x i from Nat.min_le_right _ _)]
          refine my_n0 (n_spend (d := d + 1) (b := 0) (D2 := i + 1) d2 d3 c4 c5 (by omega) hPk (by omega) (Nat.le_refl _) (by omega) (by omega)) (fun N3 f3 ⟨e4, e5⟩ => ?_)
          refine my_n0 (n_takeNext (d := d + 1)) (fun N4 f4 c => ?_)
          refine ih (i + 1) N4 (by omega) (mr_t hf2 (mr_t (mr_s f3 g45_7) (mr_s f4 g43_7))) ?_ ?_ ?_ ?_
          · exact AF_i (AF_e (q := 44) e4 (fun k hk => (c k hk).1)) (PJ_s hne)
          · exact AM_i (AM_e (q := 45) e5 (fun k hk => (c k hk).2)) (PJ_s hne) (Nat.le_refl _)
          · exact AF_e d6 (fun k _ => by rw [mr_a3 f4 (by decide), mr_a3 f3 (by decide)])
          · exact AM_e d7 (fun k _ => by rw [mr_a3 f4 (by decide), mr_a3 f3 (by decide)])
      refine ms_ifT (fun hg => ?_) (fun hg => ?_)
      · have e1 : gbit A p i = 1 := by unfold gbit q_gh; rw [hg]; rfl
        rw [e1] at rest
        exact rest
      · have e1 : gbit A p i = 0 := by unfold gbit q_gh; rw [hg]; rfl
        rw [e1] at rest
        exact rest
  -- the beginning
  suffices H : ∀ r i N, i + r = 41 → md_fr g43 M N → (∀ k, k < i → md_a N 42 k = (if k = sp then 0 else nI 100000) ∧ md_a N 43 k = (if k = sp then 0 else iI (-100000))) → ms_V cd_X9_lookBy none 0 (ms_Cl (d + 2)) (gN g47 h M t (fun N => AF N 46 (PX A p S (x + 1)) ∧ AM N 47 12 (PX A p S (x + 1)))) 2 [(0, .ref h.length), (1, .int (nI x)), (2, .int (nI sp)), (3, .int (nI i))] [] (ms_m h N t) from H 41 0 M rfl mr_0 (fun k hk => absurd hk (Nat.not_lt_zero _))
  intro r
  induction r with
  | zero =>
    intro i N hi hf ha
    have e : i = 41 := by omega
    subst e
    have PJ0 : ∀ e k, PJ A p S x sp 0 e k ↔ k = 0 ∧ e = sp := fun e k => ⟨fun ⟨s, ⟨h1, h2⟩, h3⟩ => ⟨h1, by have : sm (muq A p S x) 0 = 0 := rfl; omega⟩, fun ⟨h1, h2⟩ => ⟨0, ⟨h1, rfl⟩, by have : sm (muq A p S x) 0 = 0 := rfl; omega⟩⟩
    refine b_X9_lookBy_2 (ms_yes (by decide) (places (ab_l A p).length 0 N (by omega) (mr_s hf g43_7) (fun e he => ?_) (fun e he => ?_) (AF_e h46 (fun k _ => by rw [mr_a3 hf (by decide)])) (AM_e h47 (fun k _ => by rw [mr_a3 hf (by decide)]))))
    · rw [(ha e he).1]
      by_cases hes : e = sp
      · rw [if_pos hes]
        exact ⟨0, rfl, Or.inr ⟨by omega, (PJ0 _ _).mpr ⟨rfl, hes⟩, fun k _ => Nat.zero_le k⟩⟩
      · rw [if_neg hes]
        exact ⟨_, rfl, Or.inl ⟨rfl, fun k hk => hes ((PJ0 _ _).mp hk).2⟩⟩
    · rw [(ha e he).2]
      by_cases hes : e = sp
      · rw [if_pos hes]
        exact ⟨0, by decide, Or.inr ⟨by omega, by omega, (PJ0 _ _).mpr ⟨rfl, hes⟩, fun k hk => by have := ((PJ0 _ _).mp hk).1; omega⟩⟩
      · rw [if_neg hes]
        exact ⟨_, rfl, Or.inl ⟨by omega, by omega, fun k hk => hes ((PJ0 _ _).mp hk).2⟩⟩
  | succ r ih =>
    intro i N hi hf ha
    have fin : ∀ v w, v = (if i = sp then 0 else nI 100000) → w = (if i = sp then 0 else iI (-100000)) → ms_V cd_X9_lookBy none 0 (ms_Cl (d + 2)) (gN g47 h M t (fun N => AF N 46 (PX A p S (x + 1)) ∧ AM N 47 12 (PX A p S (x + 1)))) 2 [(0, .ref h.length), (1, .int (nI x)), (2, .int (nI sp)), (3, .int (nI (i + 1)))] [] (ms_m h (md_ua (md_ua N 42 i v) 43 i w) t) := by
      intro v w hv hw
      refine ih (i + 1) _ (by omega) (mr_a (mr_a hf (by decide)) (by decide)) (fun k hk => ?_)
      by_cases hki : k = i
      · subst hki
        rw [md_a_fun (by decide), md_a_at, md_a_at]
        exact ⟨hv, hw⟩
      · rw [md_a_fun (by decide), md_a_ne hki, md_a_ne hki, md_a_fun (by decide)]
        exact ha k (by omega)
    refine b_X9_lookBy_2 (ms_no (fun z => by rw [show (40 : Int32) = nI 40 from rfl, ms_nlt (by omega) (by omega)] at z; omega) ?_)
    simp only [ms_oR_e, ms_oI_e, ms_oL_e, mm_f42, mm_r42, mm_w42, mm_f43, mm_r43, mm_w43]
    rw [ms_nc (by omega), show nI i + 1 = nI (i + 1) from ms_p1 1]
    refine ms_ite2 (fun z => ?_) (fun z => ?_)
    · have z2 := z
      rw [ms_nI_eq (by omega) (by omega)] at z2
      refine ⟨ms_in (by omega) (by decide), ms_yes z ⟨ms_in (by omega) (by decide), fin _ _ ?_ ?_⟩⟩
      · rw [if_pos z2]
      · rw [if_pos z2]
    · have z2 := z
      rw [ms_nI_eq (by omega) (by omega)] at z2
      refine ⟨ms_in (by omega) (by decide), ms_no z ⟨ms_in (by omega) (by decide), fin _ _ ?_ ?_⟩⟩
      · rw [if_neg z2]; rfl
      · rw [if_neg z2]; decide
end Lkn
