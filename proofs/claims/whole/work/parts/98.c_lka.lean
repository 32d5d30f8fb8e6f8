/-! THE CLASS'S CHOOSER: looks; written by wip/whole/mdl.py from c_lka.txt -/
def iI (a : Int) : Int32 := Int32.ofInt a
def DR (X : cx_T) (l : List Int) : Prop := ∀ k, k < l.length → cx_a X 23 k = iI (l.getD k 0)
def fDc (c z : Nat) : Bool := decide (z = 23 ∨ z = c)
def fTc (c z : Nat) : Bool := fR z || decide (z = 23 ∨ z = c)
def cS (c n : Nat) : Prop := ∀ (X : cx_T) f, (cx_c X).set c (.inl (0, n, .inl f)) = cx_c (cx_sa X c f)
section Lka
variable {d b i j k n p o e f u v x y z s r c F L day : Nat} {X Y Z : cx_T} {t : ms_S} {A : ab_T} {S : List Nat} {K : Int32 → ms_S → Prop} {l : List Int} {a a2 : Int}
theorem iI_t (h1 : -2147483648 ≤ a) (h2 : a < 2147483648) : (iI a).toInt = a := by
  unfold iI
  rw [Int32.toInt_ofInt]
  have hs : ((Int32.size : Nat) : Int) = 4294967296 := rfl
  apply Int.bmod_eq_of_le <;> omega
theorem iI_n (h : n < 2 ^ 31) : iI (n : Int) = nI n := by
  apply Int32.toInt_inj.mp
  rw [iI_t (by omega) (by omega), nI_toInt h]
theorem iI_N (h : 0 ≤ a) (h2 : a < 2147483648) : iI a = nI a.toNat := by
  rw [← iI_n (by omega), show ((a.toNat : Nat) : Int) = a by omega]
theorem iI_s (h : n < 2 ^ 31) (h2 : k < 2 ^ 31) : nI n - nI k = iI ((n : Int) - (k : Int)) := by
  apply Int32.toInt_inj.mp
  rw [Int32.toInt_sub, nI_toInt h, nI_toInt h2]
  unfold iI
  rw [Int32.toInt_ofInt]
theorem iI_a (h1 : -2147483648 ≤ a) (h2 : a < 2147483648) (h3 : -2147483648 ≤ a2) (h4 : a2 < 2147483648) : iI a + iI a2 = iI (a + a2) := by
  apply Int32.toInt_inj.mp
  rw [Int32.toInt_add, iI_t h1 h2, iI_t h3 h4]
  unfold iI
  rw [Int32.toInt_ofInt]
theorem iI_an (h1 : -2147483648 ≤ a) (h2 : a < 2147483648) (h3 : n < 2 ^ 31) : iI a + nI n = iI (a + (n : Int)) := by
  rw [← iI_n h3, iI_a h1 h2 (by omega) (by omega)]
theorem iI_le (h1 : -2147483648 ≤ a) (h2 : a < 2147483648) (h3 : -2147483648 ≤ a2) (h4 : a2 < 2147483648) : iI a ≤ iI a2 ↔ a ≤ a2 := by
  rw [Int32.le_iff_toInt_le, iI_t h1 h2, iI_t h3 h4]
theorem cA_23 : cA 23 12 := ⟨fun _ => rfl, fun _ _ _ => rfl, by decide⟩
theorem gD_mem : ∀ (l : List Int) (k : Nat), k < l.length → l.getD k 0 ∈ l
  | [], k, h => absurd h (Nat.not_lt_zero _)
  | b :: r, 0, _ => List.mem_cons_self
  | b :: r, k + 1, h => List.mem_cons_of_mem _ (gD_mem r k (Nat.lt_of_succ_lt_succ h))
theorem srt_get : ∀ (l : List Int) (i j : Nat), l.Pairwise (· ≤ ·) → i ≤ j → j < l.length → l.getD i 0 ≤ l.getD j 0
  | [], i, j, _, _, h => absurd h (Nat.not_lt_zero _)
  | b :: r, 0, 0, _, _, _ => Int.le_refl _
  | b :: r, 0, j + 1, h, _, h2 => (List.pairwise_cons.mp h).1 _ (gD_mem r j (Nat.lt_of_succ_lt_succ h2))
  | b :: r, i + 1, 0, _, h, _ => absurd h (Nat.not_succ_le_zero _)
  | b :: r, i + 1, j + 1, h, h1, h2 => srt_get r i j (List.pairwise_cons.mp h).2 (Nat.le_of_succ_le_succ h1) (Nat.lt_of_succ_lt_succ h2)
theorem tk_s : ∀ (l : List Int) (i : Nat), i < l.length → (l.take (i + 1)).sum = (l.take i).sum + l.getD i 0
  | [], i, h => absurd h (Nat.not_lt_zero _)
  | b :: r, 0, h => by
    show b + 0 = 0 + b
    omega
  | b :: r, i + 1, h => by
    rw [List.take_succ_cons, List.sum_cons, List.take_succ_cons, List.sum_cons, tk_s r i (Nat.lt_of_succ_lt_succ h)]
    show b + (_ + r.getD i 0) = b + _ + r.getD i 0
    omega
theorem tk_rg : ∀ (l : List Int) (i : Nat), (∀ z, z ∈ l → -100000000 ≤ z ∧ z ≤ 5000) → -100000000 * (i : Int) ≤ (l.take i).sum ∧ (l.take i).sum ≤ 5000 * (i : Int)
  | [], i, h => by
    rw [List.take_nil, List.sum_nil]
    omega
  | b :: r, 0, h => by
    rw [List.take_zero, List.sum_nil]
    omega
  | b :: r, i + 1, h => by
    have := tk_rg r i (fun z hz => h z (List.mem_cons_of_mem _ hz))
    have := h b List.mem_cons_self
    rw [List.take_succ_cons, List.sum_cons]
    omega
theorem ins_get : ∀ (l : List Int) (m k : Nat), m ≤ l.length → (∀ i, i < m → l.getD i 0 ≤ a) → (∀ i, m ≤ i → i < l.length → a < l.getD i 0) → k < l.length + 1 → (ins a l).getD k 0 = if k < m then l.getD k 0 else if k = m then a else l.getD (k - 1) 0
  | [], m, k, hm, _, _, hk => by
    have h1 : m = 0 := Nat.le_zero.mp hm
    have h2 : k = 0 := Nat.lt_one_iff.mp hk
    subst h1
    subst h2
    rfl
  | b :: r, 0, k, hm, h1, h2, hk => by
    have hb : a < b := h2 0 (Nat.le_refl _) (Nat.succ_pos _)
    rw [show ins a (b :: r) = a :: b :: r from if_pos hb]
    cases k with
    | zero => rfl
    | succ k => rfl
  | b :: r, m + 1, k, hm, h1, h2, hk => by
    have hb : b ≤ a := h1 0 (Nat.succ_pos _)
    rw [show ins a (b :: r) = b :: ins a r from if_neg (by omega)]
    cases k with
    | zero => rw [if_pos (Nat.succ_pos _)]; rfl
    | succ k =>
      have ih := ins_get r m k (Nat.le_of_succ_le_succ hm) (fun i hi => h1 (i + 1) (Nat.succ_lt_succ hi)) (fun i hi hi2 => h2 (i + 1) (Nat.succ_le_succ hi) (Nat.succ_lt_succ hi2)) (Nat.lt_of_succ_lt_succ hk)
      show (ins a r).getD k 0 = _
      rw [ih]
      by_cases hk1 : k < m
      · rw [if_pos hk1, if_pos (Nat.succ_lt_succ hk1)]; rfl
      · rw [if_neg hk1, if_neg (fun z => hk1 (Nat.lt_of_succ_lt_succ z))]
        by_cases hk2 : k = m
        · rw [if_pos hk2, if_pos (by omega)]
        · rw [if_neg hk2, if_neg (by omega)]
          obtain ⟨q, rfl⟩ : ∃ q, k = q + 1 := ⟨k - 1, by omega⟩
          rfl
theorem k_sortIn (hl : l.length < 12) (hs : l.Pairwise (· ≤ ·)) (hr : ∀ z, z ∈ l → -100000000 ≤ z ∧ z ≤ 5000) (ha : -100000000 ≤ a ∧ a ≤ 5000) (hD : DR X l) : ms_H' (d + 1) 36 [.ref 15, .int (iI a), .int (nI l.length)] (ms_x X t) (fN (fDc 23) X t (fun Y => DR Y (ins a l))) := by
  refine mx_m (fun a b c => m_X1_sortIn a b ⟨_, xo_15⟩ c) fN_l (b_X1_sortIn_0 ?_)
  simp only [xf_15_12, ms_oR_e, cA_l cA_23]
  rw [show (nI 12 - 1 : Int32) = nI 11 by decide, mn_nI (by omega) (by decide), Nat.min_eq_left (by omega)]
  have gr : ∀ i, i < l.length → -100000000 ≤ l.getD i 0 ∧ l.getD i 0 ≤ 5000 := fun i hi => hr _ (gD_mem l i hi)
  suffices H : ∀ m Y, m ≤ l.length → cx_fr (fDc 23) X Y → (∀ k, k < m → cx_a Y 23 k = iI (l.getD k 0)) → (∀ k, m ≤ k → k < l.length → cx_a Y 23 (k + 1) = iI (l.getD k 0) ∧ a < l.getD k 0) → ms_V cd_X1_sortIn none 0 (ms_Cl d) (fN (fDc 23) X t (fun Y => DR Y (ins a l))) 12 [(0, .ref 15), (1, .int (iI a)), (3, .int (nI m))] [] (ms_x Y t) from H l.length X (Nat.le_refl _) fr_0 (fun k hk => hD k hk) (fun k h1 h2 => by omega)
  have fin : ∀ m Y, m ≤ l.length → cx_fr (fDc 23) X Y → (∀ k, k < m → cx_a Y 23 k = iI (l.getD k 0) ∧ l.getD k 0 ≤ a) → (∀ k, m ≤ k → k < l.length → cx_a Y 23 (k + 1) = iI (l.getD k 0) ∧ a < l.getD k 0) → fN (fDc 23) X t (fun Y => DR Y (ins a l)) none (ms_x (cx_ua Y 23 m (iI a)) t) := by
    intro m Y hm hf h1 h2
    refine ⟨_, fr_a hf rfl, rfl, rfl, fun k hk => ?_⟩
    rw [ins_len] at hk
    rw [cx_a_ua, ins_get l m k hm (fun i hi => (h1 i hi).2) (fun i hi hi2 => (h2 i hi hi2).2) hk]
    by_cases hk1 : k < m
    · rw [if_pos hk1, if_neg (by omega)]
      exact (h1 k hk1).1
    · rw [if_neg hk1]
      by_cases hk2 : k = m
      · rw [if_pos hk2, if_pos ⟨rfl, hk2⟩]
      · rw [if_neg hk2, if_neg (fun z => hk2 z.2)]
        have := (h2 (k - 1) (by omega) (by omega)).1
        rw [show k - 1 + 1 = k by omega] at this
        exact this
  intro m
  induction m with
  | zero =>
    intro Y hm hf h1 h2
    refine b_X1_sortIn_12 (ms_yes (by decide) ?_)
    simp only [xf_15_12, ms_oR_e, xw_23]
    refine ⟨ms_in (k := 0) (by decide) (by decide), ?_⟩
    exact fin 0 Y hm hf (fun k hk => absurd hk (Nat.not_lt_zero _)) h2
  | succ m ih =>
    intro Y hm hf h1 h2
    refine b_X1_sortIn_12 (ms_no (fun z => by rw [show (0 : Int32) = nI 0 from rfl, ms_nle (by omega) (by omega)] at z; omega) ?_)
    have e1 : nI (m + 1) - 1 = nI m := by rw [ms_nI_m1]
    simp only [xf_15_12, ms_oR_e, xr_23, xw_23, e1]
    have g := gr m (by omega)
    refine ⟨ms_in (by omega) (by decide), ?_⟩
    rw [ms_nc (by omega), ms_nc (by omega), h1 m (by omega)]
    refine ms_ite2 (fun z => ?_) (fun z => ?_)
    · rw [iI_le (by omega) (by omega) (by omega) (by omega)] at z
      refine ⟨ms_in (by omega) (by decide), fin (m + 1) Y hm hf (fun k hk => ⟨h1 k hk, ?_⟩) h2⟩
      exact Int.le_trans (srt_get l k m hs (by omega) (by omega)) z
    · rw [iI_le (by omega) (by omega) (by omega) (by omega)] at z
      refine ⟨ms_in (by omega) (by decide), ms_in (by omega) (by decide), ?_⟩
      rw [nI_dec]
      refine ih _ (by omega) (fr_a hf rfl) (fun k hk => ?_) (fun k hk1 hk2 => ?_)
      · rw [cx_a_ua, if_neg (by omega)]
        exact h1 k (by omega)
      · rw [cx_a_ua]
        by_cases hkm : k = m
        · subst hkm
          rw [if_pos ⟨rfl, rfl⟩]
          exact ⟨rfl, by omega⟩
        · rw [if_neg (by omega)]
          exact h2 k (by omega) hk2
theorem CK_f2 {S2 : Nat → Bool} (h : CK A b p S X) (f : cx_fr S2 X Y) (h2 : ∀ c, 15 ≤ c → c ≤ 20 → S2 c = false) : CK A b p S Y := by
  obtain ⟨⟨a1, a2, a3, a4⟩, a5, a6, a7, a8⟩ := h
  have e15 : S2 15 = false := h2 15 (by omega) (by omega)
  refine ⟨⟨?_, ?_, ?_, fun i hi => ?_⟩, ?_, a6, fun s hs => ?_, fun s j hs hj => ?_⟩
  · rw [f.2.1 e15]; exact a1
  · rw [(f.1 15 e15).1]; exact a2
  · rw [(f.1 15 e15).1]; exact a3
  · rw [(f.1 17 (h2 17 (by omega) (by omega))).2, (f.1 18 (h2 18 (by omega) (by omega))).2]; exact a4 i hi
  · rw [(f.1 15 e15).1]; exact a5
  · rw [(f.1 16 (h2 16 (by omega) (by omega))).2]; exact a7 s hs
  · rw [(f.1 19 (h2 19 (by omega) (by omega))).2, (f.1 20 (h2 20 (by omega) (by omega))).2]; exact a8 s j hs hj
theorem fDc_n (h : z ≠ 23) (h2 : z ≠ c) : fDc c z = false := decide_eq_false (fun w => by omega)
theorem fD_c : ∀ z, fDc c z = false → fDc 23 z = false := fun z h => decide_eq_false (fun w => of_decide_eq_false h (by omega))
theorem fTc_n (h : z < 21 ∨ 23 < z) (h2 : z ≠ c) : fTc c z = false := by
  unfold fTc fR
  rw [decide_eq_false (by omega), decide_eq_false (by omega)]
  rfl
theorem fTc_D : ∀ z, fTc c z = false → fDc c z = false := fun z h => (Bool.or_eq_false_iff.mp h).2
theorem fTc_R : ∀ z, fTc c z = false → fR z = false := fun z h => (Bool.or_eq_false_iff.mp h).1
theorem RW_f2 {S2 : Nat → Bool} (h : RW A p S X r x) (f : cx_fr S2 X Y) (h1 : S2 21 = false) (h2 : S2 22 = false) : RW A p S Y r x := RW_fr h (funext fun n => (f.1 21 h1).2 n) (funext fun n => (f.1 22 h2).2 n)
/-- the sums of one choice taken into those written down -/
def NL (A : ab_T) (p : Nat) (S : List Nat) (c F x : Nat) (H : Nat → Nat) (X Y : cx_T) : Prop := (∀ k, k < 13 → cx_a Y c (F + k) = nI (min (H k) (nl_v (nl_f A p S x) k))) ∧ ∀ i, (i < F ∨ F + 13 ≤ i) → cx_a Y c i = cx_a X c i
theorem k_noteLooked {H : Nat → Nat} (hC : CK A b p S X) (hn : (ab_l A p).length ≤ 12) (hr : r ≤ 9) (hR : RW A p S X r x) (hc : cA c 208) (hcc : c = 31 ∨ c = 48) (hF : F + 13 ≤ 208) (hH : ∀ k, k < 13 → cx_a X c (F + k) = nI (H k) ∧ H k ≤ NW) : ms_H' (d + 2) 35 [.ref 15, .int (nI r), .ref c, .int (nI F)] (ms_x X t) (fN (fDc c) X t (NL A p S c F x H X)) := by
  have hm := hC.2.2.1
  refine mx_m (fun a b c => m_X1_noteLooked a b ⟨_, xo_15⟩ c) fN_l (b_X1_noteLooked_0 ?_)
  simp only [xf_15_11, ms_oR_e, xr_22]
  refine ⟨ms_in (by omega) (by decide), ?_⟩
  rw [ms_nc (by omega), hR.2]
  have hop := ck_o_le (op := q_op A p S) (x := x) (fun s => q_op_le) hm
  have hN := fun j => NI_p (A := A) (p := p) (x := x) hm j
  -- the sums
  have second : ∀ m i Y, i + m = (nl_f A p S x).2.2.length → cx_fr (fDc c) X Y → DR Y (nl_f A p S x).2.2 → (∀ k, k < 13 → cx_a Y c (F + k) = if k ≤ (nl_f A p S x).2.1 + i then nI (min (H k) (nl_v (nl_f A p S x) k)) else nI (H k)) → (∀ i, (i < F ∨ F + 13 ≤ i) → cx_a Y c i = cx_a X c i) → ms_V cd_X1_noteLooked none 0 (ms_Cl (d + 1)) (fN (fDc c) X t (NL A p S c F x H X)) 147 [(0, .ref 15), (2, .ref c), (3, .int (nI F)), (4, .int (iI ((nl_f A p S x).1 + ((nl_f A p S x).2.2.take i).sum))), (5, .int (nI ((nl_f A p S x).2.1 + i))), (6, .int (nI (nl_f A p S x).2.2.length)), (7, .int (nI i))] [] (ms_x Y t) := by
    have hNn := hN (ab_l A p).length
    rw [← nl_f_p] at hNn
    obtain ⟨n1, n2, n3, n4, n5, n6⟩ := hNn
    have vv : ∀ i, i ≤ (nl_f A p S x).2.2.length → 0 ≤ (nl_f A p S x).1 + ((nl_f A p S x).2.2.take i).sum ∧ (nl_f A p S x).1 + ((nl_f A p S x).2.2.take i).sum < 2147483648 ∧ nl_v (nl_f A p S x) ((nl_f A p S x).2.1 + i) = ((nl_f A p S x).1 + ((nl_f A p S x).2.2.take i).sum).toNat := by
      intro i hi
      obtain ⟨s, _, e⟩ := n5 i hi
      have := tk_rg (nl_f A p S x).2.2 i n3
      refine ⟨by omega, by omega, ?_⟩
      unfold nl_v
      rw [if_pos (by omega), show (nl_f A p S x).2.1 + i - (nl_f A p S x).2.1 = i by omega]
    intro m
    induction m with
    | zero =>
      intro i Y hi hf hD h1 h2
      refine b_X1_noteLooked_147 (ms_yes ((ms_nle (by omega) (by omega)).mpr (by omega)) ⟨Y, hf, rfl, rfl, fun k hk => ?_, h2⟩)
      rw [h1 k hk]
      by_cases hk2 : k ≤ (nl_f A p S x).2.1 + i
      · rw [if_pos hk2]
      · rw [if_neg hk2, show nl_v (nl_f A p S x) k = NW from if_neg (by omega), Nat.min_eq_left (hH k hk).2]
    | succ m ih =>
      intro i Y hi hf hD h1 h2
      obtain ⟨v1, v2, v3⟩ := vv i (by omega)
      obtain ⟨w1, w2, w3⟩ := vv (i + 1) (by omega)
      have g := n3 _ (gD_mem (nl_f A p S x).2.2 i (by omega))
      have ht := tk_s (nl_f A p S x).2.2 i (by omega)
      refine b_X1_noteLooked_147 (ms_no (fun z => by rw [ms_nle (by omega) (by omega)] at z; omega) ?_)
      simp only [xf_15_12, ms_oR_e, xr_23]
      refine ⟨ms_in (by omega) (by decide), ?_⟩
      have e1 : nI F + (nI ((nl_f A p S x).2.1 + i) + 1) = nI (F + ((nl_f A p S x).2.1 + (i + 1))) := by
        rw [show nI ((nl_f A p S x).2.1 + i) + 1 = nI ((nl_f A p S x).2.1 + i + 1) from ms_p1 1, ms_p1]
        rfl
      rw [ms_nc (by omega), hD i (by omega), e1, cA_r hc, cA_w hc, iI_a (by omega) (by omega) (by omega) (by omega), show (nl_f A p S x).1 + ((nl_f A p S x).2.2.take i).sum + (nl_f A p S x).2.2.getD i 0 = (nl_f A p S x).1 + ((nl_f A p S x).2.2.take (i + 1)).sum by omega]
      refine ⟨ms_in (by omega) (by decide), ms_in (by omega) (by decide), ?_⟩
      have hHk := (hH ((nl_f A p S x).2.1 + (i + 1)) (by omega)).2
      unfold NW at hHk
      have h1k := h1 ((nl_f A p S x).2.1 + (i + 1)) (by omega)
      rw [if_neg (by omega)] at h1k
      rw [ms_nc (by omega), h1k, show nI ((nl_f A p S x).2.1 + i) + 1 = nI ((nl_f A p S x).2.1 + (i + 1)) from ms_p1 1, show nI i + 1 = nI (i + 1) from ms_p1 1]
      have hiI := iI_N w1 w2
      rw [← w3] at hiI
      have hw : (if iI ((nl_f A p S x).1 + ((nl_f A p S x).2.2.take (i + 1)).sum) < nI (H ((nl_f A p S x).2.1 + (i + 1))) then iI ((nl_f A p S x).1 + ((nl_f A p S x).2.2.take (i + 1)).sum) else nI (H ((nl_f A p S x).2.1 + (i + 1)))) = nI (min (H ((nl_f A p S x).2.1 + (i + 1))) (nl_v (nl_f A p S x) ((nl_f A p S x).2.1 + (i + 1)))) := by
        rw [hiI]
        exact mn_nI (by omega) (by omega)
      rw [hw]
      refine ih (i + 1) _ (by omega) (fr_a hf (decide_eq_true (Or.inr rfl))) (fun k hk => ?_) (fun k hk => ?_) (fun k hk => ?_)
      · rw [cx_a_ua, if_neg (by omega)]
        exact hD k hk
      · rw [cx_a_ua]
        by_cases hk2 : k = (nl_f A p S x).2.1 + (i + 1)
        · subst hk2
          rw [if_pos ⟨rfl, rfl⟩, if_pos (Nat.le_refl _)]
        · rw [if_neg (by omega), h1 k hk]
          by_cases hk3 : k ≤ (nl_f A p S x).2.1 + i
          · rw [if_pos hk3, if_pos (by omega)]
          · rw [if_neg hk3, if_neg (by omega)]
      · rw [cx_a_ua, if_neg (by omega)]
        exact h2 k hk
  -- the places
  suffices HH : ∀ m j Y, j + m = (ab_l A p).length → cx_fr (fDc 23) X Y → DR Y (nl_p A p S x j).2.2 → ms_V cd_X1_noteLooked none 0 (ms_Cl (d + 1)) (fN (fDc c) X t (NL A p S c F x H X)) 17 [(0, .ref 15), (1, .int (nI r)), (2, .ref c), (3, .int (nI F)), (4, .int (iI (nl_p A p S x j).1)), (5, .int (nI (nl_p A p S x j).2.1)), (6, .int (nI (nl_p A p S x j).2.2.length)), (7, .int (nI j))] [] (ms_x Y t) by
    have := HH (ab_l A p).length 0 X (by omega) fr_0 (fun k hk => absurd hk (Nat.not_lt_zero _))
    rw [show (nl_p A p S x 0).1 = ((ck_o (q_op A p S) x S.length : Nat) : Int) from rfl, iI_n (by omega)] at this
    exact this
  intro m
  induction m with
  | zero =>
    intro j Y hj hf hD
    have hCY : CK A b p S Y := CK_f2 hC hf (fun c h1 h2 => fDc_n (by omega) (by omega))
    have hjn : j = (ab_l A p).length := by omega
    subst hjn
    rw [← nl_f_p] at hD ⊢
    obtain ⟨n1, n2, n3, n4, n5, n6⟩ := hN (ab_l A p).length
    rw [← nl_f_p] at n1 n2 n3 n4 n5 n6
    refine b_X1_noteLooked_17 (ms_oI_i xf_15_3 ?_)
    rw [hCY.1.2.2.1]
    refine ms_yes ((ms_nle (by omega) (by omega)).mpr (Nat.le_refl _)) ?_
    have e1 : nI F + nI (nl_f A p S x).2.1 = nI (F + (nl_f A p S x).2.1) := ms_p1 _
    rw [e1, cA_r hc, cA_w hc]
    refine ⟨ms_in (by omega) (by decide), ms_in (by omega) (by decide), ?_⟩
    have hcd : fDc 23 c = false := fDc_n (by omega) (by omega)
    have hHk := hH (nl_f A p S x).2.1 (by omega)
    have hH2 := hHk.2
    unfold NW at hH2
    obtain ⟨s, _, e⟩ := n5 0 (Nat.zero_le _)
    rw [List.take_zero, List.sum_nil] at e
    have hiI := iI_N (a := (nl_f A p S x).1) (by omega) (by omega)
    have hv : nl_v (nl_f A p S x) (nl_f A p S x).2.1 = (nl_f A p S x).1.toNat := by
      unfold nl_v
      rw [if_pos (by omega), Nat.sub_self, List.take_zero, List.sum_nil, Int.add_zero]
    rw [ms_nc (by omega), (hf.1 c hcd).2, hHk.1]
    have hw : (if iI (nl_f A p S x).1 < nI (H (nl_f A p S x).2.1) then iI (nl_f A p S x).1 else nI (H (nl_f A p S x).2.1)) = nI (min (H (nl_f A p S x).2.1) (nl_v (nl_f A p S x) (nl_f A p S x).2.1)) := by
      rw [hiI, ← hv]
      exact mn_nI (by omega) (by omega)
    rw [hw]
    have := second (nl_f A p S x).2.2.length 0 (cx_ua Y c (F + (nl_f A p S x).2.1) (nI (min (H (nl_f A p S x).2.1) (nl_v (nl_f A p S x) (nl_f A p S x).2.1)))) (by omega) (fr_a (fr_s hf fD_c) (decide_eq_true (Or.inr rfl))) (fun k hk => by rw [cx_a_ua, if_neg (by omega)]; exact hD k hk) (fun k hk => ?_) (fun k hk => by rw [cx_a_ua, if_neg (by omega)]; exact (hf.1 c hcd).2 k)
    · rw [List.take_zero, List.sum_nil, Int.add_zero, Nat.add_zero] at this
      exact this
    · rw [cx_a_ua]
      by_cases hk2 : k = (nl_f A p S x).2.1
      · subst hk2
        rw [if_pos ⟨rfl, rfl⟩, if_pos (show (nl_f A p S x).2.1 ≤ (nl_f A p S x).2.1 + 0 from Nat.le_refl _)]
      · rw [if_neg (by omega), (hf.1 c hcd).2, (hH k hk).1]
        by_cases hk3 : k ≤ (nl_f A p S x).2.1 + 0
        · rw [if_pos hk3, show nl_v (nl_f A p S x) k = NW from if_neg (by omega), Nat.min_eq_left (hH k hk).2]
        · rw [if_neg hk3]
  | succ m ih =>
    intro j Y hj hf hD
    have hCY : CK A b p S Y := CK_f2 hC hf (fun c h1 h2 => fDc_n (by omega) (by omega))
    have hRY : RW A p S Y r x := RW_f2 hR hf (fDc_n (by omega) (by omega)) (fDc_n (by omega) (by omega))
    obtain ⟨n1, n2, n3, n4, n5, n6⟩ := hN j
    have hst := nl_p_s (A := A) (p := p) (S := S) (x := x) (j := j)
    have hl : ck_m (q_lf A p S j) x S.length ≤ NW := ck_m_le _
    have hq := q_lk_le (A := A) (p := p) (i := j)
    have hlk := hCY.1.2.2.2 j (by omega)
    have hR1 := hRY.1 j (by omega)
    unfold NW at hl
    refine b_X1_noteLooked_17 (ms_oI_i xf_15_3 ?_)
    rw [hCY.1.2.2.1]
    refine ms_no (fun z => by rw [ms_nle (by omega) (by omega)] at z; omega) ?_
    have e1 : (nI r * 12) + nI j = nI (r * 12 + j) := ix_12
    rw [e1]
    simp only [xf_15_10, xf_15_7, xf_15_6, ms_oR_e, xr_21, xr_18, xr_17]
    refine ⟨ms_in (by omega) (by decide), ms_in (by omega) (by decide), ?_⟩
    have H := fun Y => ih (j + 1) Y (by omega)
    rw [hst] at H
    unfold nl_st at H
    rw [ms_nc (by omega), ms_nc (by omega), hR1, hlk.2, show nI j + 1 = nI (j + 1) from ms_p1 1]
    refine ms_ifT (fun hg => ?_) (fun hg => ?_)
    · rw [hg, if_neg Bool.false_ne_true] at H
      refine ms_ite2 (fun z => ?_) (fun z => ?_)
      · rw [show (100000000 : Int32) = nI 100000000 from rfl, ms_nI_eq (by omega) (by decide)] at z
        rw [show ck_m (q_lf A p S j) x S.length = NW from z, if_pos rfl] at H
        refine ⟨ms_in (by omega) (by decide), ?_⟩
        rw [hlk.1, iI_an (by omega) (by omega) (by omega), show nI (nl_p A p S x j).2.1 + 1 = nI ((nl_p A p S x j).2.1 + 1) from ms_p1 1]
        exact H Y hf hD
      · rw [show (100000000 : Int32) = nI 100000000 from rfl, ms_nI_eq (by omega) (by decide)] at z
        rw [if_neg (show ¬ ck_m (q_lf A p S j) x S.length = NW from z)] at H
        refine ⟨ms_in (by omega) (by decide), ?_⟩
        rw [hlk.1, iI_s (by omega) (by omega)]
        refine mx_n0 (k_sortIn (by omega) n1 n3 (by omega) hD) (fun Z fz hz => ?_)
        rw [iI_an (by omega) (by omega) (by omega), show nI (nl_p A p S x j).2.2.length + 1 = nI ((nl_p A p S x j).2.2.length + 1) from ms_p1 1]
        have := H Z (fr_t hf fz) hz
        simp only [ins_len] at this
        exact this
    · rw [hg, if_pos rfl] at H
      refine ⟨ms_in (by omega) (by decide), ?_⟩
      rw [hlk.1, mn_nI (by omega) (by omega), iI_an (by omega) (by omega) (by omega)]
      exact H Y hf hD
end Lka
