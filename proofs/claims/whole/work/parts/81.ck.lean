/-! CHOICES OF SOURCES, AS NUMBERS; written by wip/whole/mdl.py from ck.txt -/
def NW : Nat := 100000000
/-- the cheapest of the chosen ones among the first so many -/
def ck_m (l : Nat → Nat) (x : Nat) : Nat → Nat
  | 0 => NW
  | s + 1 => if x.testBit s then min (ck_m l x s) (l s) else ck_m l x s
def ck_o (op : Nat → Nat) (x : Nat) (m : Nat) : Nat := sm (fun s => if x.testBit s then op s else 0) m
/-- what a choice x costs: opens, looks, lifts (of a place, of a source), number of sources, of places -/
def ck_s (op lk : Nat → Nat) (lf : Nat → Nat → Nat) (m n x : Nat) : Nat := ck_o op x m + sm (fun i => min (lk i) (ck_m (lf i) x m)) n
def ones (x : Nat) : Nat → Nat
  | 0 => 0
  | s + 1 => ones x s + (if x.testBit s then 1 else 0)
/-- the least of the first so many choices -/
def ck_b (f : Nat → Nat) : Nat → Nat × Nat
  | 0 => (NW, 0)
  | b + 1 => if f b < (ck_b f b).1 ∨ f b = (ck_b f b).1 ∧ ones b 9 < ones (ck_b f b).2 9 then (f b, b) else ck_b f b
section Ck
variable {l op lk : Nat → Nat} {lf : Nat → Nat → Nat} {x y m n s k b i : Nat}
theorem sm_congr {f g : Nat → Nat} : ∀ n : Nat, (∀ i, i < n → f i = g i) → sm f n = sm g n
  | 0, _ => rfl
  | n + 1, h => by
    show sm f n + f n = sm g n + g n
    rw [sm_congr n (fun i hi => h i (by omega)), h n (by omega)]
theorem ck_m_congr : ∀ m : Nat, (∀ s, s < m → x.testBit s = y.testBit s) → ck_m l x m = ck_m l y m
  | 0, _ => rfl
  | m + 1, h => by
    show (if x.testBit m then min (ck_m l x m) (l m) else ck_m l x m) = (if y.testBit m then min (ck_m l y m) (l m) else ck_m l y m)
    rw [ck_m_congr m (fun s hs => h s (by omega)), h m (by omega)]
theorem ck_m_0 : ∀ m : Nat, (∀ s, s < m → x.testBit s = false) → ck_m l x m = NW
  | 0, _ => rfl
  | m + 1, h => by
    show (if x.testBit m then min (ck_m l x m) (l m) else ck_m l x m) = _
    rw [ck_m_0 m (fun s hs => h s (by omega)), h m (by omega)]
    rfl
theorem ck_o_0 (h : ∀ s, s < m → x.testBit s = false) : ck_o op x m = 0 := by
  unfold ck_o
  induction m with
  | zero => rfl
  | succ m ih =>
    show sm _ m + (if x.testBit m then op m else 0) = 0
    rw [ih (fun s hs => h s (by omega)), h m (by omega)]
    rfl
/-- k is the lowest of x, y is the rest -/
def low (x k y : Nat) : Prop := x.testBit k = true ∧ (∀ s, s < k → x.testBit s = false) ∧ y.testBit k = false ∧ ∀ s, s ≠ k → y.testBit s = x.testBit s
theorem ck_m_low (h : low x k y) : ∀ m : Nat, ck_m l x m = if k < m then min (ck_m l y m) (l k) else ck_m l y m
  | 0 => by rw [if_neg (Nat.not_lt_zero _)]; rfl
  | m + 1 => by
    show (if x.testBit m then min (ck_m l x m) (l m) else ck_m l x m) = _
    have ih := ck_m_low h m
    have e1 : ck_m l y (m + 1) = if y.testBit m then min (ck_m l y m) (l m) else ck_m l y m := rfl
    obtain ⟨h1, h2, h3, h4⟩ := h
    by_cases hk : m = k
    · subst hk
      rw [if_neg (Nat.lt_irrefl _)] at ih
      rw [e1, h1, h3, ih, if_pos (Nat.lt_succ_self _)]
      rfl
    · rw [e1, h4 m hk]
      by_cases hkm : k < m
      · rw [if_pos hkm] at ih
        rw [if_pos (show k < m + 1 by omega), ih]
        cases x.testBit m
        · rfl
        · show min (min (ck_m l y m) (l k)) (l m) = min (min (ck_m l y m) (l m)) (l k)
          omega
      · rw [if_neg hkm] at ih
        rw [if_neg (show ¬ k < m + 1 by omega), ih]
theorem ck_o_low (h : low x k y) (m : Nat) : ck_o op x m = if k < m then ck_o op y m + op k else ck_o op y m := by
  induction m with
  | zero => rw [if_neg (Nat.not_lt_zero _)]; rfl
  | succ m ih =>
    have e1 : ∀ z, ck_o op z (m + 1) = ck_o op z m + (if z.testBit m then op m else 0) := fun _ => rfl
    obtain ⟨h1, h2, h3, h4⟩ := h
    rw [e1, e1, ih]
    by_cases hk : m = k
    · subst hk
      rw [if_neg (Nat.lt_irrefl _), if_pos (Nat.lt_succ_self _), h1, h3]
      simp
    · rw [h4 m hk]
      by_cases hkm : k < m
      · rw [if_pos hkm, if_pos (show k < m + 1 by omega)]
        cases x.testBit m
        · rfl
        · show ck_o op y m + op k + op m = ck_o op y m + op m + op k
          omega
      · rw [if_neg hkm, if_neg (show ¬ k < m + 1 by omega)]
theorem ck_m_le : ∀ m : Nat, ck_m l x m ≤ NW
  | 0 => Nat.le_refl _
  | m + 1 => by
    show (if x.testBit m then min (ck_m l x m) (l m) else ck_m l x m) ≤ _
    have := ck_m_le m
    split <;> omega
theorem sm_le_n {f : Nat → Nat} {c : Nat} : ∀ n : Nat, (∀ k, k < n → f k ≤ c) → sm f n ≤ n * c
  | 0, _ => Nat.zero_le _
  | n + 1, h => by
    have := sm_le_n n (fun k hk => h k (by omega))
    have := h n (by omega)
    rw [Nat.succ_mul]
    show sm f n + f n ≤ _
    omega
theorem ck_o_le (h : ∀ s, op s ≤ 1000) (hm : m ≤ 9) : ck_o op x m ≤ 9000 := by
  have := sm_le_n (f := fun s => if x.testBit s then op s else 0) (c := 1000) m (fun k _ => by
    show (if x.testBit k then op k else 0) ≤ 1000
    have := h k
    split <;> omega)
  unfold ck_o
  have : m * 1000 ≤ 9 * 1000 := Nat.mul_le_mul_right _ hm
  omega
theorem ck_s_le (h : ∀ s, op s ≤ 1000) (hl : ∀ i, lk i ≤ 5000) (hm : m ≤ 9) (hn : n ≤ 12) : ck_s op lk lf m n x ≤ 69000 := by
  have h1 := ck_o_le (x := x) h hm
  have h2 := sm_le_n (f := fun i => min (lk i) (ck_m (lf i) x m)) (c := 5000) n (fun i _ => by
    show min (lk i) (ck_m (lf i) x m) ≤ 5000
    have := hl i
    omega)
  unfold ck_s
  have : n * 5000 ≤ 12 * 5000 := Nat.mul_le_mul_right _ hn
  omega
theorem sm_le1 {f : Nat → Nat} {j : Nat} (hj : j ≤ n) : sm f j ≤ sm f n := by
  induction n with
  | zero => rw [show j = 0 by omega]; exact Nat.le_refl _
  | succ n ih =>
    show _ ≤ sm f n + f n
    by_cases hj2 : j = n + 1
    · subst hj2; exact Nat.le_refl _
    · have := ih (by omega)
      omega
/-! the lowest one -/
def lowk (x : Nat) : Nat → Nat
  | 0 => 0
  | m + 1 => if x.testBit 0 then 0 else 1 + lowk (x / 2) m
theorem tb_s {i : Nat} : x.testBit (i + 1) = (x / 2).testBit i := Nat.testBit_succ x i
theorem lowk_lt : ∀ (m x : Nat), x ≠ 0 → x < 2 ^ m → lowk x m < m ∧ x.testBit (lowk x m) = true ∧ ∀ s, s < lowk x m → x.testBit s = false
  | 0, x, h, h2 => by omega
  | m + 1, x, h, h2 => by
    have e : lowk x (m + 1) = if x.testBit 0 then 0 else 1 + lowk (x / 2) m := rfl
    rw [e]
    by_cases h0 : x.testBit 0 = true
    · rw [if_pos h0]
      exact ⟨Nat.succ_pos _, h0, fun s hs => absurd hs (Nat.not_lt_zero _)⟩
    · rw [if_neg h0]
      have hx : x % 2 = 0 := by
        rw [Nat.testBit_zero] at h0
        simp only [decide_eq_true_eq] at h0
        omega
      obtain ⟨a1, a2, a3⟩ := lowk_lt m (x / 2) (by omega) (by rw [Nat.pow_succ] at h2; omega)
      refine ⟨by omega, ?_, ?_⟩
      · rw [Nat.add_comm 1, tb_s]
        exact a2
      · intro s hs
        cases s with
        | zero => simpa using h0
        | succ s => rw [tb_s]; exact a3 s (by omega)
/-- a choice without its lowest -/
def rst (x : Nat) : Nat := x &&& (x - 1)
theorem testBit_pred {x k : Nat} (h1 : x.testBit k = true) (h2 : ∀ s, s < k → x.testBit s = false) : ∀ s, (x - 1).testBit s = if s < k then true else if s = k then false else x.testBit s := by
  induction k generalizing x with
  | zero =>
    intro s
    have h0 : x % 2 = 1 := by simpa [Nat.testBit_zero] using h1
    cases s with
    | zero =>
      rw [if_neg (Nat.lt_irrefl _), if_pos rfl, Nat.testBit_zero]
      exact decide_eq_false (by omega)
    | succ s =>
      rw [if_neg (by omega), if_neg (by omega), tb_s, tb_s, show (x - 1) / 2 = x / 2 by omega]
  | succ k ih =>
    intro s
    have h0 : x % 2 = 0 := by
      have := h2 0 (by omega)
      rw [Nat.testBit_zero] at this
      simp only [decide_eq_false_iff_not] at this
      omega
    have hx : x ≠ 0 := by
      intro z
      rw [z, Nat.zero_testBit] at h1
      cases h1
    have hi := ih (x := x / 2) (by rw [← tb_s]; exact h1) (fun s hs => by rw [← tb_s]; exact h2 (s + 1) (by omega))
    cases s with
    | zero =>
      rw [if_pos (by omega), Nat.testBit_zero]
      exact decide_eq_true (by omega)
    | succ s =>
      rw [tb_s, show (x - 1) / 2 = x / 2 - 1 by omega, hi s, tb_s]
      by_cases a1 : s < k
      · rw [if_pos a1, if_pos (show s + 1 < k + 1 by omega)]
      · rw [if_neg a1, if_neg (show ¬ s + 1 < k + 1 by omega)]
        by_cases a2 : s = k
        · rw [if_pos a2, if_pos (show s + 1 = k + 1 by omega)]
        · rw [if_neg a2, if_neg (show ¬ s + 1 = k + 1 by omega)]
theorem rst_low (h1 : x.testBit k = true) (h2 : ∀ s, s < k → x.testBit s = false) : low x k (rst x) := by
  have hp := testBit_pred h1 h2
  refine ⟨h1, h2, ?_, ?_⟩
  · unfold rst
    rw [Nat.testBit_and, hp, if_neg (Nat.lt_irrefl _), if_pos rfl, Bool.and_false]
  · intro s hs
    unfold rst
    rw [Nat.testBit_and, hp]
    by_cases a1 : s < k
    · rw [h2 s a1, Bool.false_and]
    · rw [if_neg a1, if_neg hs, Bool.and_self]
theorem tb_lt (h : x < 2 ^ m) (hs : m ≤ s) : x.testBit s = false := Nat.testBit_lt_two_pow (Nat.lt_of_lt_of_le h (Nat.pow_le_pow_right (by decide) hs))
/-- bits from k on -/
def hi (x k : Nat) : Nat := x / 2 ^ k * 2 ^ k
theorem hi_bit {s : Nat} : (hi x k).testBit s = (decide (k ≤ s) && x.testBit s) := by
  unfold hi
  rw [Nat.testBit_mul_two_pow, Nat.testBit_div_two_pow]
  by_cases h : k ≤ s
  · rw [decide_eq_true h, Nat.sub_add_cancel h]
  · rw [decide_eq_false h, Bool.false_and, Bool.false_and]
theorem hi_next (h : ∃ j, j < k ∧ (x + 1).testBit j = true) : hi (x + 1) k = hi x k := by
  have h2 : (x + 1) % 2 ^ k ≠ 0 := by
    intro z
    obtain ⟨j, hj, hb⟩ := h
    have := Nat.testBit_mod_two_pow (x + 1) k j
    rw [z, Nat.zero_testBit, hb, decide_eq_true hj] at this
    cases this
  unfold hi
  congr 1
  have hp : 0 < 2 ^ k := Nat.two_pow_pos k
  rw [Nat.succ_div, if_neg (fun z => h2 (Nat.mod_eq_zero_of_dvd z)), Nat.add_zero]
theorem eq_of_bits (h : ∀ s, x.testBit s = y.testBit s) : x = y := Nat.eq_of_testBit_eq h
theorem hi_low (h : x.testBit k = true) (h2 : ∀ s, s < k → x.testBit s = false) : hi x k = x := by
  refine eq_of_bits (fun s => ?_)
  rw [hi_bit]
  by_cases hs : k ≤ s
  · rw [decide_eq_true hs, Bool.true_and]
  · rw [decide_eq_false hs, Bool.false_and, h2 s (by omega)]
theorem hi_rst {k2 : Nat} (h : low x k y) (hk : k < k2) (h2 : x.testBit k2 = true) (h3 : ∀ s, k < s → s < k2 → x.testBit s = false) : y = hi x k2 := by
  refine eq_of_bits (fun s => ?_)
  rw [hi_bit]
  obtain ⟨a1, a2, a3, a4⟩ := h
  by_cases hs : k2 ≤ s
  · rw [decide_eq_true hs, Bool.true_and, a4 s (by omega)]
  · rw [decide_eq_false hs, Bool.false_and]
    by_cases hsk : s = k
    · rw [hsk, a3]
    · rw [a4 s hsk]
      by_cases hs2 : s < k
      · exact a2 s hs2
      · exact h3 s (by omega) (by omega)
end Ck
