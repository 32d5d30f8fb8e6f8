/-! LOOKS AND LIFTS: choices with so many looks, and what they cost; written by wip/whole/mdl.py from b_lkp.txt -/
/-- by choices of look or lift of the first so many places: k looks, cost s -/
def ch (lk lf : Nat → Nat) (gh : Nat → Bool) : Nat → Nat → Nat → Prop
  | 0, k, s => k = 0 ∧ s = 0
  | j + 1, k, s => (∃ k' s', ch lk lf gh j k' s' ∧ k = k' + (if gh j then 0 else 1) ∧ s = s' + lk j) ∨ (lf j ≠ NW ∧ ∃ s', ch lk lf gh j k s' ∧ s = s' + lf j)
def q_lm (A : ab_T) (p : Nat) (S : List Nat) (x i : Nat) : Nat := ck_m (q_lf A p S i) x S.length
def q_gh (A : ab_T) (p i : Nat) : Bool := ab_gh A (ab_en A (q_e A p i) 1)
def ab_ch (A : ab_T) (p : Nat) (S : List Nat) (x : Nat) : Nat → Nat → Nat → Prop := ch (q_lk A p) (q_lm A p S x) (q_gh A p)
def PL (A : ab_T) (p : Nat) (S : List Nat) (k c : Nat) : Prop := ∃ x s, x < 2 ^ S.length ∧ ab_ch A p S x (ab_l A p).length k s ∧ c = ck_o (q_op A p S) x S.length + s
def TL (A : ab_T) (day : Nat) : Nat → Nat → Nat → Prop
  | 0, k, c => k = 0 ∧ c = 0
  | p + 1, k, c => if ab_s A p day = true then ∃ k1 c1 k2 c2, TL A day p k1 c1 ∧ PL A p (ab_src A p day) k2 c2 ∧ k = k1 + k2 ∧ c = c1 + c2 else TL A day p k c
def ab_lp (A : ab_T) (day p : Nat) : Nat := if ab_s A p day then (lb A p (ab_src A p day)).1 else 0
def LKa (A : ab_T) (day sl w v : Nat) : Prop := if w = 1 then ((∃ c, c ≤ sm (ab_lp A day) (ab_p A) + sl ∧ TL A day (ab_p A) v c) ∧ ∀ k c, TL A day (ab_p A) k c → c ≤ sm (ab_lp A day) (ab_p A) + sl → k ≤ v) else ((∃ c, c ≤ sm (ab_lp A day) (ab_p A) + sl ∧ TL A day (ab_p A) v c) ∧ ∀ k c, TL A day (ab_p A) k c → c ≤ sm (ab_lp A day) (ab_p A) + sl → v ≤ k)
section Lkp
variable {b i j k m n p o e f u v w x y s r c L day : Nat} {A : ab_T} {S : List Nat} {l : List Int} {a : Int} {lk lf : Nat → Nat} {gh : Nat → Bool}
theorem LKa_u (h : LKa A day s w v) (h2 : LKa A day s w u) : v = u := by
  unfold LKa at h h2
  by_cases hw : w = 1
  · rw [if_pos hw] at h h2
    obtain ⟨⟨c, hc, ht⟩, hm⟩ := h
    obtain ⟨⟨c2, hc2, ht2⟩, hm2⟩ := h2
    have := hm _ _ ht2 hc2
    have := hm2 _ _ ht hc
    omega
  · rw [if_neg hw] at h h2
    obtain ⟨⟨c, hc, ht⟩, hm⟩ := h
    obtain ⟨⟨c2, hc2, ht2⟩, hm2⟩ := h2
    have := hm _ _ ht2 hc2
    have := hm2 _ _ ht hc
    omega
theorem ch_k : ∀ j k s, ch lk lf gh j k s → k ≤ j
  | 0, k, s, h => by
    have := h.1
    omega
  | j + 1, k, s, h => by
    rcases h with ⟨k', s', h, e, _⟩ | ⟨_, s', h, _⟩
    · have := ch_k j _ _ h
      have : (if gh j then 0 else 1) ≤ 1 := by split <;> omega
      omega
    · have := ch_k j _ _ h
      omega
theorem ch_ge : ∀ j k s, ch lk lf gh j k s → sm (fun i => min (lk i) (lf i)) j ≤ s
  | 0, k, s, h => Nat.zero_le _
  | j + 1, k, s, h => by
    show sm (fun i => min (lk i) (lf i)) j + min (lk j) (lf j) ≤ s
    rcases h with ⟨k', s', h, e, e2⟩ | ⟨_, s', h, e2⟩
    · have := ch_ge j _ _ h
      omega
    · have := ch_ge j _ _ h
      omega
theorem ch_opt (hl : ∀ i, lk i ≤ 5000) : ∀ j, ∃ k, ch lk lf gh j k (sm (fun i => min (lk i) (lf i)) j)
  | 0 => ⟨0, rfl, rfl⟩
  | j + 1 => by
    obtain ⟨k, h⟩ := ch_opt hl j
    have h5 := hl j
    by_cases hh : lk j ≤ lf j
    · exact ⟨_, Or.inl ⟨k, _, h, rfl, by show sm _ j + min (lk j) (lf j) = _; rw [Nat.min_eq_left hh]⟩⟩
    · exact ⟨k, Or.inr ⟨by unfold NW; omega, _, h, by show sm _ j + min (lk j) (lf j) = _; rw [Nat.min_eq_right (by omega)]⟩⟩
theorem ck_b_mn {f : Nat → Nat} : ∀ X x, x < X → (ck_b f X).1 ≤ f x
  | 0, x, h => absurd h (Nat.not_lt_zero _)
  | b + 1, x, h => by
    have ih := ck_b_mn (f := f) b
    unfold ck_b
    by_cases hx : x = b
    · subst hx
      split
      · exact Nat.le_refl _
      · omega
    · have := ih x (by omega)
      split
      · show f b ≤ f x
        omega
      · exact this
theorem ck_b_hit {f : Nat → Nat} (hf : ∀ x, f x < NW) : ∀ X, 0 < X → (ck_b f X).1 = f (ck_b f X).2
  | 0, h => absurd h (Nat.not_lt_zero _)
  | b + 1, h => by
    have ih := ck_b_hit hf b
    have hb := hf b
    unfold ck_b
    split
    · rfl
    · rename_i hh
      by_cases h0 : b = 0
      · subst h0
        exact absurd (Or.inl hb) hh
      · exact ih (by omega)
theorem PL_k (h : PL A p S k c) : k ≤ (ab_l A p).length := by
  obtain ⟨x, s, _, h, _⟩ := h
  exact ch_k _ _ _ h
theorem PL_ge (h : PL A p S k c) : (lb A p S).1 ≤ c := by
  obtain ⟨x, s, hx, h, e⟩ := h
  have h1 := ck_b_mn (f := q_s A p S) _ x hx
  have h2 := ch_ge _ _ _ h
  have h3 : q_s A p S x = ck_o (q_op A p S) x S.length + sm (fun i => min (q_lk A p i) (q_lm A p S x i)) (ab_l A p).length := rfl
  have h4 : (lb A p S).1 ≤ q_s A p S x := h1
  omega
theorem PL_opt (hm : S.length ≤ 9) (hn : (ab_l A p).length ≤ 12) : ∃ k, PL A p S k (lb A p S).1 := by
  obtain ⟨k, hk⟩ := ch_opt (lf := q_lm A p S (lb A p S).2) (gh := q_gh A p) (fun i => q_lk_le (A := A) (p := p) (i := i)) (ab_l A p).length
  refine ⟨k, (lb A p S).2, _, ck_b_lt _ (Nat.two_pow_pos _), hk, ?_⟩
  exact ck_b_hit (f := q_s A p S) (fun x => by have := q_s_le (A := A) (p := p) (x := x) hm hn; unfold NW; omega) _ (Nat.two_pow_pos _)
theorem ab_src_9 : (ab_src A p day).length ≤ 9 := by
  unfold ab_src
  rw [List.length_take]
  omega
theorem TL_s (h : ab_s A p day = true) : TL A day (p + 1) k c ↔ ∃ k1 c1 k2 c2, TL A day p k1 c1 ∧ PL A p (ab_src A p day) k2 c2 ∧ k = k1 + k2 ∧ c = c1 + c2 := by
  rw [show TL A day (p + 1) k c ↔ (if ab_s A p day = true then ∃ k1 c1 k2 c2, TL A day p k1 c1 ∧ PL A p (ab_src A p day) k2 c2 ∧ k = k1 + k2 ∧ c = c1 + c2 else TL A day p k c) from Iff.rfl, if_pos h]
theorem TL_n (h : ¬ ab_s A p day = true) : TL A day (p + 1) k c ↔ TL A day p k c := by
  rw [show TL A day (p + 1) k c ↔ (if ab_s A p day = true then ∃ k1 c1 k2 c2, TL A day p k1 c1 ∧ PL A p (ab_src A p day) k2 c2 ∧ k = k1 + k2 ∧ c = c1 + c2 else TL A day p k c) from Iff.rfl, if_neg h]
theorem lp_s (h : ab_s A p day = true) : sm (ab_lp A day) (p + 1) = sm (ab_lp A day) p + (lb A p (ab_src A p day)).1 := by
  show _ + ab_lp A day p = _
  unfold ab_lp
  rw [if_pos h]
theorem lp_n (h : ¬ ab_s A p day = true) : sm (ab_lp A day) (p + 1) = sm (ab_lp A day) p := by
  show _ + ab_lp A day p = _
  unfold ab_lp
  rw [if_neg h]
  rfl
theorem TL_ge : ∀ p k c, TL A day p k c → sm (ab_lp A day) p ≤ c
  | 0, k, c, h => Nat.zero_le _
  | p + 1, k, c, h => by
    by_cases hs : ab_s A p day = true
    · obtain ⟨k1, c1, k2, c2, h1, h2, e1, e2⟩ := (TL_s hs).mp h
      rw [lp_s hs]
      have := TL_ge p _ _ h1
      have := PL_ge h2
      omega
    · rw [lp_n hs]
      exact TL_ge p _ _ ((TL_n hs).mp h)
theorem TL_opt (hw : ab_w A) : ∀ p, ∃ k, TL A day p k (sm (ab_lp A day) p)
  | 0 => ⟨0, rfl, rfl⟩
  | p + 1 => by
    obtain ⟨k, h⟩ := TL_opt hw p
    by_cases hs : ab_s A p day = true
    · obtain ⟨k2, h2⟩ := PL_opt (A := A) (p := p) (S := ab_src A p day) ab_src_9 (hw.2.2.2.2.2 p)
      exact ⟨k + k2, (TL_s hs).mpr ⟨k, _, k2, _, h, h2, rfl, lp_s hs⟩⟩
    · exact ⟨k, (TL_n hs).mpr (by rw [lp_n hs]; exact h)⟩
theorem lens : ∀ (l : List Nat) (f : Nat → Nat) (P : Nat), sm (fun p => (l.filter (fun e => decide (f e = p))).length) P ≤ l.length
  | [], f, P => by
    have := sm_le (f := fun _ => 0) (m := 0) (fun _ => Nat.le_refl _) P
    show sm (fun _ => 0) P ≤ 0
    omega
  | a :: l, f, P => by
    have ih := lens l f
    have : ∀ P, sm (fun p => ((a :: l).filter (fun e => decide (f e = p))).length) P ≤ sm (fun p => (l.filter (fun e => decide (f e = p))).length) P + (if f a < P then 1 else 0) := by
      intro P
      induction P with
      | zero => exact Nat.zero_le _
      | succ P ih2 =>
        show sm (fun p => ((a :: l).filter (fun e => decide (f e = p))).length) P + ((a :: l).filter (fun e => decide (f e = P))).length ≤ sm (fun p => (l.filter (fun e => decide (f e = p))).length) P + (l.filter (fun e => decide (f e = P))).length + _
        rw [show (a :: l).filter (fun e => decide (f e = P)) = if decide (f a = P) = true then a :: l.filter (fun e => decide (f e = P)) else l.filter (fun e => decide (f e = P)) from List.filter_cons]
        by_cases hp : f a = P
        · rw [if_pos (decide_eq_true hp), if_pos (show f a < P + 1 by omega), List.length_cons]
          rw [if_neg (show ¬ f a < P by omega)] at ih2
          omega
        · rw [decide_eq_false hp, if_neg (by decide)]
          have : (if f a < P then 1 else 0) ≤ (if f a < P + 1 then 1 else 0) := by
            by_cases h : f a < P
            · rw [if_pos h, if_pos (by omega)]
              exact Nat.le_refl _
            · rw [if_neg h]
              exact Nat.zero_le _
          omega
    have h1 := this P
    have h2 := ih P
    have : (if f a < P then 1 else 0) ≤ 1 := by split <;> omega
    rw [List.length_cons]
    omega
theorem TL_k : ∀ p k c, TL A day p k c → k ≤ sm (fun q => (ab_l A q).length) p
  | 0, k, c, h => by
    have := h.1
    omega
  | p + 1, k, c, h => by
    show k ≤ sm _ p + (ab_l A p).length
    by_cases hs : ab_s A p day = true
    · obtain ⟨k1, c1, k2, c2, h1, h2, e1, e2⟩ := (TL_s hs).mp h
      have := TL_k p _ _ h1
      have := PL_k h2
      omega
    · have := TL_k p _ _ ((TL_n hs).mp h)
      omega
theorem TL_120 (hw : ab_w A) (h : TL A day p k c) : k ≤ 120 := by
  have h1 := TL_k _ _ _ h
  have h2 := lens (List.range (ab_e A)) (fun e => ab_en A e 0) p
  rw [List.length_range] at h2
  have := hw.1.2.2.1
  have h3 : sm (fun q => (ab_l A q).length) p ≤ ab_e A := h2
  omega
theorem lp_le (hw : ab_w A) : sm (ab_lp A day) p ≤ p * 69000 := sm_le (fun p => by
  unfold ab_lp
  split
  · have h1 := ck_b_mn (f := q_s A p (ab_src A p day)) _ 0 (Nat.two_pow_pos (ab_src A p day).length)
    have h2 := q_s_le (A := A) (p := p) (x := 0) (S := ab_src A p day) ab_src_9 (hw.2.2.2.2.2 p)
    exact Nat.le_trans h1 h2
  · exact Nat.zero_le _) p
/-! the class's: sorted differences -/
theorem ins_mem {z : Int} : ∀ l : List Int, z ∈ ins a l → z = a ∨ z ∈ l
  | [], h => Or.inl (List.mem_singleton.mp h)
  | b :: r, h => by
    unfold ins at h
    split at h
    · rcases List.mem_cons.mp h with h | h
      · exact Or.inl h
      · exact Or.inr h
    · rcases List.mem_cons.mp h with h | h
      · exact Or.inr (by rw [h]; exact List.mem_cons_self)
      · rcases ins_mem r h with h | h
        · exact Or.inl h
        · exact Or.inr (List.mem_cons_of_mem _ h)
theorem ins_srt : ∀ l : List Int, l.Pairwise (· ≤ ·) → (ins a l).Pairwise (· ≤ ·)
  | [], h => List.pairwise_singleton _ _
  | b :: r, h => by
    obtain ⟨h1, h2⟩ := List.pairwise_cons.mp h
    unfold ins
    split
    · rename_i hab
      refine List.pairwise_cons.mpr ⟨fun z hz => ?_, h⟩
      rcases List.mem_cons.mp hz with e | e
      · rw [e]; omega
      · have := h1 z e
        omega
    · rename_i hab
      refine List.pairwise_cons.mpr ⟨fun z hz => ?_, ins_srt r h2⟩
      rcases ins_mem r hz with e | e
      · rw [e]; omega
      · exact h1 z e
theorem ins_len : ∀ l : List Int, (ins a l).length = l.length + 1
  | [] => rfl
  | b :: r => by
    unfold ins
    split
    · rfl
    · rw [List.length_cons, ins_len r, List.length_cons]
theorem tk_ge : ∀ (l : List Int) (i : Nat), (∀ z, z ∈ l → a ≤ z) → i < l.length → (l.take i).sum + a ≤ (l.take (i + 1)).sum
  | [], i, _, h => absurd h (Nat.not_lt_zero _)
  | b :: r, 0, h, _ => by
    have := h b List.mem_cons_self
    simp only [List.take_zero, List.sum_nil, List.take_succ_cons, List.sum_cons]
    omega
  | b :: r, i + 1, h, hi => by
    have := tk_ge r i (fun z hz => h z (List.mem_cons_of_mem _ hz)) (Nat.lt_of_succ_lt_succ hi)
    rw [List.take_succ_cons, List.sum_cons, List.take_succ_cons, List.sum_cons]
    omega
theorem tk_ins : ∀ (l : List Int) (i : Nat), l.Pairwise (· ≤ ·) → i ≤ l.length → ((ins a l).take (i + 1)).sum = if i < l.length then min (l.take (i + 1)).sum ((l.take i).sum + a) else (l.take i).sum + a
  | [], i, _, h => by
    have : i = 0 := Nat.le_zero.mp h
    subst this
    rw [if_neg (show ¬ 0 < ([] : List Int).length from Nat.lt_irrefl _)]
    show a + 0 = 0 + a
    omega
  | b :: r, i, h, hi => by
    obtain ⟨h1, h2⟩ := List.pairwise_cons.mp h
    unfold ins
    split
    · rename_i hab
      rw [List.take_succ_cons, List.sum_cons]
      by_cases hl : i < (b :: r).length
      · rw [if_pos hl]
        have := tk_ge (a := a) (b :: r) i (fun z hz => by
          rcases List.mem_cons.mp hz with e | e
          · rw [e]; omega
          · have := h1 z e
            omega) hl
        omega
      · rw [if_neg hl]
        omega
    · rename_i hab
      rw [List.take_succ_cons, List.sum_cons]
      cases i with
      | zero =>
        rw [if_pos (show 0 < (b :: r).length from Nat.succ_pos _)]
        simp only [List.take_zero, List.sum_nil, List.take_succ_cons, List.sum_cons]
        omega
      | succ i =>
        have hi2 : i ≤ r.length := Nat.le_of_succ_le_succ hi
        have ih := tk_ins r i h2 hi2
        rw [ih, List.take_succ_cons, List.sum_cons, List.take_succ_cons, List.sum_cons, List.length_cons]
        by_cases hl : i < r.length
        · rw [if_pos hl, if_pos (Nat.succ_lt_succ hl)]
          omega
        · rw [if_neg hl, if_neg (fun z => hl (Nat.lt_of_succ_lt_succ z))]
          omega
def nl_p (A : ab_T) (p : Nat) (S : List Nat) (x j : Nat) : Int × Nat × List Int := (List.range j).foldl (nl_st A p S x) ((ck_o (q_op A p S) x S.length : Nat), 0, [])
theorem nl_p_s : nl_p A p S x (j + 1) = nl_st A p S x (nl_p A p S x j) j := by
  unfold nl_p
  rw [List.range_succ, List.foldl_append]
  rfl
abbrev NI (A : ab_T) (p : Nat) (S : List Nat) (x j : Nat) (a : Int × Nat × List Int) : Prop :=
  a.2.2.Pairwise (· ≤ ·) ∧ a.2.1 + a.2.2.length ≤ j ∧ (∀ z, z ∈ a.2.2 → -100000000 ≤ z ∧ z ≤ 5000) ∧ (0 ≤ a.1 ∧ a.1 ≤ 9000 + 100000000 * j) ∧
  (∀ i, i ≤ a.2.2.length → ∃ s, ab_ch A p S x j (a.2.1 + i) s ∧ ((ck_o (q_op A p S) x S.length + s : Nat) : Int) = a.1 + (a.2.2.take i).sum) ∧
  ∀ k s, ab_ch A p S x j k s → a.2.1 ≤ k ∧ k ≤ a.2.1 + a.2.2.length ∧ a.1 + (a.2.2.take (k - a.2.1)).sum ≤ ((ck_o (q_op A p S) x S.length + s : Nat) : Int)
theorem NI_0 (hm : S.length ≤ 9) : NI A p S x 0 (nl_p A p S x 0) := by
  have h9 := ck_o_le (op := q_op A p S) (x := x) (fun s => q_op_le) hm
  refine ⟨List.Pairwise.nil, Nat.le_refl _, fun z hz => absurd hz (List.not_mem_nil), ⟨by show (0 : Int) ≤ ((ck_o (q_op A p S) x S.length : Nat) : Int); omega, by show ((ck_o (q_op A p S) x S.length : Nat) : Int) ≤ _; omega⟩, fun i hi => ?_, fun k s h => ?_⟩
  · have : i = 0 := Nat.le_zero.mp hi
    subst this
    exact ⟨0, ⟨rfl, rfl⟩, by show _ = ((ck_o (q_op A p S) x S.length : Nat) : Int) + 0; omega⟩
  · obtain ⟨rfl, rfl⟩ := h
    refine ⟨Nat.le_refl _, Nat.le_refl _, ?_⟩
    show ((ck_o (q_op A p S) x S.length : Nat) : Int) + 0 ≤ _
    omega
theorem NI_s {acc : Int × Nat × List Int} (h : NI A p S x j acc) : NI A p S x (j + 1) (nl_st A p S x acc j) := by
  have hq := q_lk_le (A := A) (p := p) (i := j)
  have hc : ck_m (q_lf A p S j) x S.length ≤ NW := ck_m_le _
  have hlm : q_lm A p S x j = ck_m (q_lf A p S j) x S.length := rfl
  have hgh : q_gh A p j = ab_gh A (ab_en A (q_e A p j) 1) := rfl
  obtain ⟨h1, h2, h3, h4, h5, h6⟩ := h
  generalize ck_m (q_lf A p S j) x S.length = c at hc hlm
  unfold NW at hc
  have hst : nl_st A p S x acc j = if q_gh A p j then (acc.1 + (min (q_lk A p j) (q_lm A p S x j) : Nat), acc.2) else if q_lm A p S x j = NW then (acc.1 + (q_lk A p j : Nat), acc.2.1 + 1, acc.2.2) else (acc.1 + (q_lm A p S x j : Nat), acc.2.1, ins ((q_lk A p j : Int) - (q_lm A p S x j : Nat)) acc.2.2) := rfl
  rw [hst]
  unfold NI
  have chs : ∀ k s, ab_ch A p S x (j + 1) k s ↔ ((∃ k' s', ab_ch A p S x j k' s' ∧ k = k' + (if q_gh A p j then 0 else 1) ∧ s = s' + q_lk A p j) ∨ (q_lm A p S x j ≠ NW ∧ ∃ s', ab_ch A p S x j k s' ∧ s = s' + q_lm A p S x j)) := fun k s => Iff.rfl
  rw [hlm] at chs ⊢
  generalize hgg : q_gh A p j = g at chs ⊢
  generalize q_lk A p j = q at chs hq ⊢
  generalize ck_o (q_op A p S) x S.length = op at h5 h6 ⊢
  obtain ⟨s0, f0, l0⟩ := acc
  simp only at h1 h2 h3 h4 h5 h6 ⊢
  cases g with
  | true =>
    rw [if_pos rfl]
    refine ⟨h1, by show f0 + l0.length ≤ j + 1; omega, h3, ⟨by show 0 ≤ s0 + ((min q c : Nat) : Int); omega, by show s0 + ((min q c : Nat) : Int) ≤ _; omega⟩, fun i hi => ?_, fun k s hk => ?_⟩
    · obtain ⟨s, hs, e⟩ := h5 i hi
      show ∃ s, _ ∧ _ = s0 + ((min q c : Nat) : Int) + (l0.take i).sum
      by_cases hqc : q ≤ c
      · exact ⟨s + q, (chs _ _).mpr (Or.inl ⟨_, s, hs, rfl, rfl⟩), by omega⟩
      · exact ⟨s + c, (chs _ _).mpr (Or.inr ⟨by unfold NW; omega, s, hs, rfl⟩), by omega⟩
    · show f0 ≤ k ∧ k ≤ f0 + l0.length ∧ s0 + ((min q c : Nat) : Int) + (l0.take (k - f0)).sum ≤ _
      rcases (chs _ _).mp hk with ⟨k', s', g1, e1, e2⟩ | ⟨_, s', g1, e2⟩
      · have e3 : k = k' := e1
        subst e3
        obtain ⟨a1, a2, a3⟩ := h6 _ _ g1
        exact ⟨a1, a2, by omega⟩
      · obtain ⟨a1, a2, a3⟩ := h6 _ _ g1
        exact ⟨a1, a2, by omega⟩
  | false =>
    rw [if_neg (by decide)]
    by_cases hcN : c = NW
    · rw [if_pos hcN]
      refine ⟨h1, by show f0 + 1 + l0.length ≤ j + 1; omega, h3, ⟨by show 0 ≤ s0 + (q : Int); omega, by show s0 + (q : Int) ≤ _; omega⟩, fun i hi => ?_, fun k s hk => ?_⟩
      · obtain ⟨s, hs, e⟩ := h5 i hi
        show ∃ s, _ ∧ _ = s0 + (q : Int) + (l0.take i).sum
        exact ⟨s + q, (chs _ _).mpr (Or.inl ⟨_, s, hs, by show f0 + 1 + i = f0 + i + 1; omega, rfl⟩), by omega⟩
      · show f0 + 1 ≤ k ∧ k ≤ f0 + 1 + l0.length ∧ s0 + (q : Int) + (l0.take (k - (f0 + 1))).sum ≤ _
        rcases (chs _ _).mp hk with ⟨k', s', g1, e1, e2⟩ | ⟨hn, _⟩
        · have e3 : k = k' + 1 := e1
          subst e3
          obtain ⟨a1, a2, a3⟩ := h6 _ _ g1
          rw [show k' + 1 - (f0 + 1) = k' - f0 by omega]
          exact ⟨by omega, by omega, by omega⟩
        · exact absurd hcN hn
    · rw [if_neg hcN]
      have hil := ins_len (a := (q : Int) - (c : Int)) l0
      refine ⟨ins_srt _ h1, by show f0 + (ins ((q : Int) - (c : Int)) l0).length ≤ j + 1; omega, fun z hz => ?_, ⟨by show 0 ≤ s0 + (c : Int); omega, by show s0 + (c : Int) ≤ _; omega⟩, fun i hi => ?_, fun k s hk => ?_⟩
      · rcases ins_mem _ hz with e | e
        · omega
        · exact h3 z e
      · show ∃ s, _ ∧ _ = s0 + (c : Int) + ((ins ((q : Int) - (c : Int)) l0).take i).sum
        have hi' : i ≤ l0.length + 1 := by rw [← hil]; exact hi
        cases i with
        | zero =>
          obtain ⟨s, hs, e⟩ := h5 0 (Nat.zero_le _)
          rw [List.take_zero, List.sum_nil] at e ⊢
          exact ⟨s + c, (chs _ _).mpr (Or.inr ⟨hcN, s, hs, rfl⟩), by omega⟩
        | succ i =>
          have ht := tk_ins (a := (q : Int) - (c : Int)) l0 i h1 (by omega)
          by_cases hl : i < l0.length
          · rw [if_pos hl] at ht
            by_cases hm : (l0.take (i + 1)).sum ≤ (l0.take i).sum + ((q : Int) - (c : Int))
            · obtain ⟨s, hs, e⟩ := h5 (i + 1) hl
              exact ⟨s + c, (chs _ _).mpr (Or.inr ⟨hcN, s, hs, rfl⟩), by omega⟩
            · obtain ⟨s, hs, e⟩ := h5 i (by omega)
              exact ⟨s + q, (chs _ _).mpr (Or.inl ⟨_, s, hs, rfl, rfl⟩), by omega⟩
          · rw [if_neg hl] at ht
            obtain ⟨s, hs, e⟩ := h5 i (by omega)
            exact ⟨s + q, (chs _ _).mpr (Or.inl ⟨_, s, hs, rfl, rfl⟩), by omega⟩
      · show f0 ≤ k ∧ k ≤ f0 + (ins ((q : Int) - (c : Int)) l0).length ∧ s0 + (c : Int) + ((ins ((q : Int) - (c : Int)) l0).take (k - f0)).sum ≤ _
        rcases (chs _ _).mp hk with ⟨k', s', g1, e1, e2⟩ | ⟨_, s', g1, e2⟩
        · have e3 : k = k' + 1 := e1
          subst e3
          obtain ⟨a1, a2, a3⟩ := h6 _ _ g1
          have ht := tk_ins (a := (q : Int) - (c : Int)) l0 (k' - f0) h1 (by omega)
          rw [show k' + 1 - f0 = k' - f0 + 1 by omega]
          refine ⟨by omega, by omega, ?_⟩
          by_cases hl : k' - f0 < l0.length
          · rw [if_pos hl] at ht
            omega
          · rw [if_neg hl] at ht
            omega
        · obtain ⟨a1, a2, a3⟩ := h6 _ _ g1
          refine ⟨a1, by omega, ?_⟩
          by_cases hk0 : k - f0 = 0
          · rw [hk0, List.take_zero, List.sum_nil] at a3 ⊢
            omega
          · have ht := tk_ins (a := (q : Int) - (c : Int)) l0 (k - f0 - 1) h1 (by omega)
            rw [if_pos (by omega), show k - f0 - 1 + 1 = k - f0 by omega] at ht
            omega
theorem NI_p (hm : S.length ≤ 9) : ∀ j, NI A p S x j (nl_p A p S x j)
  | 0 => NI_0 hm
  | j + 1 => by
    rw [nl_p_s]
    exact NI_s (NI_p hm j)
theorem nl_f_p : nl_f A p S x = nl_p A p S x (ab_l A p).length := rfl
theorem nl_v_at (hm : S.length ≤ 9) (h : nl_v (nl_f A p S x) k < NW) : ∃ s, ab_ch A p S x (ab_l A p).length k s ∧ nl_v (nl_f A p S x) k = ck_o (q_op A p S) x S.length + s := by
  have hN := NI_p (A := A) (p := p) (x := x) hm (ab_l A p).length
  rw [nl_f_p] at h ⊢
  unfold nl_v at h ⊢
  by_cases hk : (nl_p A p S x (ab_l A p).length).2.1 ≤ k ∧ k ≤ (nl_p A p S x (ab_l A p).length).2.1 + (nl_p A p S x (ab_l A p).length).2.2.length
  · rw [if_pos hk] at h ⊢
    obtain ⟨s, hs, e⟩ := hN.2.2.2.2.1 (k - (nl_p A p S x (ab_l A p).length).2.1) (by omega)
    rw [show (nl_p A p S x (ab_l A p).length).2.1 + (k - (nl_p A p S x (ab_l A p).length).2.1) = k by omega] at hs
    exact ⟨s, hs, by omega⟩
  · rw [if_neg hk] at h
    exact absurd h (Nat.lt_irrefl _)
theorem nl_v_le (hm : S.length ≤ 9) (h : ab_ch A p S x (ab_l A p).length k s) : nl_v (nl_f A p S x) k ≤ ck_o (q_op A p S) x S.length + s := by
  have hN := NI_p (A := A) (p := p) (x := x) hm (ab_l A p).length
  obtain ⟨a1, a2, a3⟩ := hN.2.2.2.2.2 _ _ h
  rw [nl_f_p]
  unfold nl_v
  rw [if_pos ⟨a1, a2⟩]
  omega
theorem lkr_n_le : ∀ X, lkr_n A p S b k X ≤ NW
  | 0 => Nat.le_refl _
  | X + 1 => by
    have := lkr_n_le X
    unfold lkr_n
    split <;> omega
theorem lkr_n_at (hm : S.length ≤ 9) : ∀ X, lkr_n A p S b k X < NW → ∃ x s, x < X ∧ ab_ch A p S x (ab_l A p).length k s ∧ lkr_n A p S b k X = ck_o (q_op A p S) x S.length + s
  | 0, h => absurd h (Nat.lt_irrefl _)
  | X + 1, h => by
    have ih := lkr_n_at hm X
    have hX : lkr_n A p S b k (X + 1) = if q_s A p S X ≤ b then min (lkr_n A p S b k X) (nl_v (nl_f A p S X) k) else lkr_n A p S b k X := rfl
    by_cases hq : q_s A p S X ≤ b
    · rw [if_pos hq] at hX
      by_cases hh : lkr_n A p S b k X ≤ nl_v (nl_f A p S X) k
      · rw [Nat.min_eq_left hh] at hX
        obtain ⟨x, s, h1, h2, h3⟩ := ih (by omega)
        exact ⟨x, s, by omega, h2, by omega⟩
      · rw [Nat.min_eq_right (by omega)] at hX
        obtain ⟨s, h2, h3⟩ := nl_v_at (A := A) (p := p) (x := X) (k := k) hm (by omega)
        exact ⟨X, s, by omega, h2, by omega⟩
    · rw [if_neg hq] at hX
      obtain ⟨x, s, h1, h2, h3⟩ := ih (by omega)
      exact ⟨x, s, by omega, h2, by omega⟩
theorem lkr_n_o (hm : S.length ≤ 9) : ∀ X x s, x < X → ab_ch A p S x (ab_l A p).length k s → ck_o (q_op A p S) x S.length + s ≤ b → lkr_n A p S b k X ≤ ck_o (q_op A p S) x S.length + s
  | 0, x, s, h, _, _ => absurd h (Nat.not_lt_zero _)
  | X + 1, x, s, h, hc, hb => by
    have hX : lkr_n A p S b k (X + 1) = if q_s A p S X ≤ b then min (lkr_n A p S b k X) (nl_v (nl_f A p S X) k) else lkr_n A p S b k X := rfl
    by_cases hx : x = X
    · subst hx
      have h2 := ch_ge _ _ _ hc
      have h3 : q_s A p S x = ck_o (q_op A p S) x S.length + sm (fun i => min (q_lk A p i) (q_lm A p S x i)) (ab_l A p).length := rfl
      rw [if_pos (by omega)] at hX
      have := nl_v_le hm hc
      omega
    · have := lkr_n_o hm X x s (by omega) hc hb
      split at hX <;> omega
theorem lkr_at (hm : S.length ≤ 9) (h : lkr A p S k < NW) : PL A p S k (lkr A p S k) := by
  obtain ⟨x, s, h1, h2, h3⟩ := lkr_n_at hm _ h
  exact ⟨x, s, h1, h2, h3⟩
theorem lkr_o (hm : S.length ≤ 9) (h : PL A p S k c) (hc : c ≤ (lb A p S).1 + 40) : lkr A p S k ≤ c := by
  obtain ⟨x, s, h1, h2, rfl⟩ := h
  exact lkr_n_o hm _ _ _ h1 h2 hc
def tgj (f g : Nat → Nat) (many : Nat) : Nat → Nat
  | 0 => NW
  | r + 1 => if r ≤ many then min (tgj f g many r) (g (many - r) + f r) else tgj f g many r
def tg (A : ab_T) (day : Nat) : Nat → Nat → Nat
  | 0, many => if many = 0 then 0 else NW
  | p + 1, many => if ab_s A p day then tgj (lkr A p (ab_src A p day)) (tg A day p) many 13 else tg A day p many
theorem tgj_le {f g : Nat → Nat} : ∀ r, tgj f g m r ≤ NW
  | 0 => Nat.le_refl _
  | r + 1 => by
    have := tgj_le (f := f) (g := g) r
    unfold tgj
    split <;> omega
theorem tgj_at {f g : Nat → Nat} : ∀ r, tgj f g m r < NW → ∃ i, i < r ∧ i ≤ m ∧ tgj f g m r = g (m - i) + f i
  | 0, h => absurd h (Nat.lt_irrefl _)
  | r + 1, h => by
    have ih := tgj_at (f := f) (g := g) r
    have hX : tgj f g m (r + 1) = if r ≤ m then min (tgj f g m r) (g (m - r) + f r) else tgj f g m r := rfl
    by_cases hq : r ≤ m
    · rw [if_pos hq] at hX
      by_cases hh : tgj f g m r ≤ g (m - r) + f r
      · rw [Nat.min_eq_left hh] at hX
        obtain ⟨i, h1, h2, h3⟩ := ih (by omega)
        exact ⟨i, by omega, h2, by omega⟩
      · rw [Nat.min_eq_right (by omega)] at hX
        exact ⟨r, by omega, hq, hX⟩
    · rw [if_neg hq] at hX
      obtain ⟨i, h1, h2, h3⟩ := ih (by omega)
      exact ⟨i, by omega, h2, by omega⟩
theorem tgj_o {f g : Nat → Nat} : ∀ r i, i < r → i ≤ m → tgj f g m r ≤ g (m - i) + f i
  | 0, i, h, _ => absurd h (Nat.not_lt_zero _)
  | r + 1, i, h, hm => by
    have hX : tgj f g m (r + 1) = if r ≤ m then min (tgj f g m r) (g (m - r) + f r) else tgj f g m r := rfl
    by_cases hi : i = r
    · subst hi
      rw [if_pos hm] at hX
      omega
    · have := tgj_o (f := f) (g := g) r i (by omega) hm
      split at hX <;> omega
theorem tg_le : ∀ p, tg A day p k ≤ NW
  | 0 => by
    unfold tg
    split <;> unfold NW <;> omega
  | p + 1 => by
    have := tg_le p
    unfold tg
    split
    · exact tgj_le _
    · exact this
theorem tg_at (hw : ab_w A) : ∀ p k, tg A day p k < NW → TL A day p k (tg A day p k)
  | 0, k, h => by
    have e : tg A day 0 k = if k = 0 then 0 else NW := rfl
    by_cases hk : k = 0
    · rw [if_pos hk] at e
      exact ⟨hk, e⟩
    · rw [if_neg hk] at e
      rw [e] at h
      exact absurd h (Nat.lt_irrefl _)
  | p + 1, k, h => by
    have e : tg A day (p + 1) k = if ab_s A p day then tgj (lkr A p (ab_src A p day)) (tg A day p) k 13 else tg A day p k := rfl
    by_cases hs : ab_s A p day = true
    · rw [if_pos hs] at e
      obtain ⟨i, h1, h2, h3⟩ := tgj_at (f := lkr A p (ab_src A p day)) (g := tg A day p) (m := k) 13 (by omega)
      exact (TL_s hs).mpr ⟨k - i, _, i, _, tg_at hw p _ (by omega), lkr_at ab_src_9 (by omega), by omega, by omega⟩
    · rw [if_neg hs] at e
      rw [e] at h ⊢
      exact (TL_n hs).mpr (tg_at hw p k h)
theorem tg_o (hw : ab_w A) : ∀ p k c, TL A day p k c → c ≤ sm (ab_lp A day) p + 40 → tg A day p k ≤ c
  | 0, k, c, h, _ => by
    obtain ⟨rfl, rfl⟩ := h
    exact Nat.le_refl _
  | p + 1, k, c, h, hc => by
    have e : tg A day (p + 1) k = if ab_s A p day then tgj (lkr A p (ab_src A p day)) (tg A day p) k 13 else tg A day p k := rfl
    by_cases hs : ab_s A p day = true
    · rw [if_pos hs] at e
      rw [lp_s hs] at hc
      obtain ⟨k1, c1, k2, c2, h1, h2, rfl, rfl⟩ := (TL_s hs).mp h
      have g1 := TL_ge _ _ _ h1
      have g2 := PL_ge h2
      have g3 := PL_k h2
      have g4 := hw.2.2.2.2.2 p
      have g5 := tg_o hw p _ _ h1 (by omega)
      have g6 := lkr_o ab_src_9 h2 (by omega)
      have g7 := tgj_o (f := lkr A p (ab_src A p day)) (g := tg A day p) (m := k1 + k2) 13 k2 (by omega) (by omega)
      rw [show k1 + k2 - k2 = k1 by omega] at g7
      omega
    · rw [if_neg hs] at e
      rw [lp_n hs] at hc
      rw [e]
      exact tg_o hw p k c ((TL_n hs).mp h) hc
/-- the first, the last one whose sum is not above a bound -/
def lw_n (g : Nat → Nat) (b : Nat) (w : Bool) : Nat → Option Nat
  | 0 => none
  | m + 1 => if g m ≤ b ∧ (w = true ∨ lw_n g b w m = none) then some m else lw_n g b w m
theorem lw_t {g : Nat → Nat} : ∀ m, match lw_n g b true m with | some v => g v ≤ b ∧ v < m ∧ ∀ k, k < m → g k ≤ b → k ≤ v | none => ∀ k, k < m → ¬ g k ≤ b
  | 0 => fun k hk => absurd hk (Nat.not_lt_zero _)
  | m + 1 => by
    have ih := lw_t (g := g) m
    by_cases hg : g m ≤ b
    · rw [show lw_n g b true (m + 1) = some m from if_pos ⟨hg, Or.inl rfl⟩]
      exact ⟨hg, Nat.lt_succ_self _, fun k hk _ => by omega⟩
    · rw [show lw_n g b true (m + 1) = lw_n g b true m from if_neg (fun z => hg z.1)]
      cases hl : lw_n g b true m with
      | none =>
        rw [hl] at ih
        intro k hk
        by_cases hkm : k = m
        · rw [hkm]; exact hg
        · exact ih k (by omega)
      | some v =>
        rw [hl] at ih
        refine ⟨ih.1, by have := ih.2.1; omega, fun k hk hgk => ?_⟩
        by_cases hkm : k = m
        · rw [hkm] at hgk; exact absurd hgk hg
        · exact ih.2.2 k (by omega) hgk
theorem lw_f {g : Nat → Nat} : ∀ m, match lw_n g b false m with | some v => g v ≤ b ∧ v < m ∧ ∀ k, k < m → g k ≤ b → v ≤ k | none => ∀ k, k < m → ¬ g k ≤ b
  | 0 => fun k hk => absurd hk (Nat.not_lt_zero _)
  | m + 1 => by
    have ih := lw_f (g := g) m
    cases hl : lw_n g b false m with
    | none =>
      rw [hl] at ih
      by_cases hg : g m ≤ b
      · rw [show lw_n g b false (m + 1) = some m from if_pos ⟨hg, Or.inr hl⟩]
        refine ⟨hg, Nat.lt_succ_self _, fun k hk hgk => ?_⟩
        by_cases hkm : k = m
        · omega
        · exact absurd hgk (ih k (by omega))
      · rw [show lw_n g b false (m + 1) = lw_n g b false m from if_neg (fun z => hg z.1), hl]
        intro k hk
        by_cases hkm : k = m
        · rw [hkm]; exact hg
        · exact ih k (by omega)
    | some v =>
      rw [hl] at ih
      rw [show lw_n g b false (m + 1) = lw_n g b false m from if_neg (fun z => by
        rcases z.2 with z | z
        · exact Bool.false_ne_true z
        · rw [hl] at z; cases z), hl]
      refine ⟨ih.1, by have := ih.2.1; omega, fun k hk hgk => ?_⟩
      by_cases hkm : k = m
      · have := ih.2.1
        omega
      · exact ih.2.2 k (by omega) hgk
theorem lw_LKa (hw : ab_w A) (hs : s ≤ 40) : ∃ v, lw_n (tg A day (ab_p A)) (sm (ab_lp A day) (ab_p A) + s) (decide (w = 1)) 121 = some v ∧ v < 121 ∧ LKa A day s w v := by
  have hp := hw.1.2.1
  have hb := lp_le (day := day) (p := ab_p A) hw
  have hb2 : ab_p A * 69000 ≤ 16 * 69000 := Nat.mul_le_mul_right _ hp
  obtain ⟨k0, h0⟩ := TL_opt (day := day) hw (ab_p A)
  have hk0 := TL_120 hw h0
  have g0 := tg_o hw _ _ _ h0 (by omega)
  have up : ∀ k c, TL A day (ab_p A) k c → c ≤ sm (ab_lp A day) (ab_p A) + s → k < 121 ∧ tg A day (ab_p A) k ≤ sm (ab_lp A day) (ab_p A) + s := fun k c h hc => by
    have := TL_120 hw h
    have := tg_o hw _ _ _ h (by omega)
    omega
  have dn : ∀ v, tg A day (ab_p A) v ≤ sm (ab_lp A day) (ab_p A) + s → ∃ c, c ≤ sm (ab_lp A day) (ab_p A) + s ∧ TL A day (ab_p A) v c := fun v hv => ⟨_, hv, tg_at hw _ _ (by unfold NW; omega)⟩
  by_cases hw1 : w = 1
  · rw [decide_eq_true hw1]
    have h := lw_t (b := sm (ab_lp A day) (ab_p A) + s) (g := tg A day (ab_p A)) 121
    cases hl : lw_n (tg A day (ab_p A)) (sm (ab_lp A day) (ab_p A) + s) true 121 with
    | none =>
      rw [hl] at h
      exact absurd (show tg A day (ab_p A) k0 ≤ _ by omega) (h k0 (by omega))
    | some v =>
      rw [hl] at h
      refine ⟨v, rfl, h.2.1, ?_⟩
      unfold LKa
      rw [if_pos hw1]
      exact ⟨dn v h.1, fun k c hk hc => h.2.2 k (up k c hk hc).1 (up k c hk hc).2⟩
  · rw [decide_eq_false hw1]
    have h := lw_f (b := sm (ab_lp A day) (ab_p A) + s) (g := tg A day (ab_p A)) 121
    cases hl : lw_n (tg A day (ab_p A)) (sm (ab_lp A day) (ab_p A) + s) false 121 with
    | none =>
      rw [hl] at h
      exact absurd (show tg A day (ab_p A) k0 ≤ _ by omega) (h k0 (by omega))
    | some v =>
      rw [hl] at h
      refine ⟨v, rfl, h.2.1, ?_⟩
      unfold LKa
      rw [if_neg hw1]
      exact ⟨dn v h.1, fun k c hk hc => h.2.2 k (up k c hk hc).1 (up k c hk hc).2⟩
end Lkp
