/-! THE STORE IN THE HEAP -/
/-- the launch of a run: the classes' numbers and slots; the arrays' classes; the first cell of the run's own; the heap as it was; the script's cell, length, numbers -/
abbrev ms_E : Type := va_G × (Nat → ClassId) × Nat × Heap × Nat × Nat × (Nat → Int32)
def ms_up (E : ms_E) (v : Value) : Value := match v with
  | .ref k => .ref (E.2.2.1 + k)
  | .retAddr x => .ref (bif Nat.beq x 0 then E.2.2.2.2.1 else E.1.2 99 x)
  | .int x => .int x
  | .long x => .long x
  | .float x => .float x
  | .double x => .double x
  | .null => .null
def ms_uc (E : ms_E) (c : ms_C) : va_E := match c with
  | .inl (t, n, .inl f) => .inl (E.2.1 t, n, .inl f)
  | .inl (t, n, .inr (.inl f)) => .inl (E.2.1 t, n, .inr (.inl f))
  | .inl (t, n, .inr (.inr f)) => .inl (E.2.1 t, n, .inr (.inr (.inr (.inr (fun j => (f j).map (fun x => E.2.2.1 + x))))))
  | .inr (ci, fs) => .inr (ci, fs.map (ms_up E))
def ms_cc (E : ms_E) (g : ms_S) : va_W := g.mapIdx (fun k c => (E.2.2.1 + k, ms_uc E c))
theorem ms_cc_get (E : ms_E) (g : ms_S) (k : Nat) : (ms_cc E g)[k]? = (g[k]?).map (fun c => (E.2.2.1 + k, ms_uc E c)) := by
  simp [ms_cc, List.getElem?_mapIdx]
theorem ms_cc_set (E : ms_E) (g : ms_S) (k : Nat) (c : ms_C) : ms_cc E (g.set k c) = (ms_cc E g).set k (E.2.2.1 + k, ms_uc E c) := by
  apply List.ext_getElem?
  intro i
  simp only [ms_cc_get, List.getElem?_set]
  by_cases h : k = i
  · subst h
    by_cases h2 : k < g.length
    · simp [h2, ms_cc]
    · simp [h2, ms_cc]
  · simp [h, ms_cc_get]
theorem ms_cc_app (E : ms_E) (g : ms_S) (c : ms_C) : ms_cc E (g ++ [c]) = ms_cc E g ++ [(E.2.2.1 + g.length, ms_uc E c)] := by
  simp [ms_cc, List.mapIdx_append]
theorem ms_cc_len (E : ms_E) (g : ms_S) : (ms_cc E g).length = g.length := by simp [ms_cc]
def ms_tys (E : ms_E) : List (ClassId × FieldType) := [(E.2.1 0, .int), (E.2.1 1, .long), (E.2.1 2, .boolean), (E.2.1 3, .object RX7), (E.2.1 4, .object RX0)]
def ms_okw (w : Jvm.Cond) : Bool := match w with
  | .methodLinkNest .. => true
  | .castable .. => true
  | .arrayOver (.object _) => true
  | w => goodWord w
/-- the one String of the class's code, its bytes -/
def ms_tx : String := "field from to year years thing claim near swap drop kin ghost slip look open birth bar if or and not "
def ms_wb : List Int32 := [102, 105, 101, 108, 100, 32, 102, 114, 111, 109, 32, 116, 111, 32, 121, 101, 97, 114, 32, 121, 101, 97, 114, 115, 32, 116, 104, 105, 110, 103, 32, 99, 108, 97, 105, 109, 32, 110, 101, 97, 114, 32, 115, 119, 97, 112, 32, 100, 114, 111, 112, 32, 107, 105, 110, 32, 103, 104, 111, 115, 116, 32, 115, 108, 105, 112, 32, 108, 111, 111, 107, 32, 111, 112, 101, 110, 32, 98, 105, 114, 116, 104, 32, 98, 97, 114, 32, 105, 102, 32, 111, 114, 32, 97, 110, 100, 32, 110, 111, 116, 32]
/-- the outside objects: 1 the String, 2 its bytes, 3 what a wrong index would be told by -/
def ms_str (E : ms_E) (U : State) : Prop := vk_S 1 [101] [ms_wb] (fun _ => E.1.2 99 1) (fun _ => E.1.2 99 2) (fun q => E.2.2.1 ≤ q) U E.2.2.2.1 ∧ vk_R RX5 133 ms_tx (E.1.2 99 1) U ∧ va_Z "java/lang/String" "COMPACT_STRINGS" "Z" (.int 1) (fun q => E.2.2.1 ≤ q) U E.2.2.2.1 ∧ (va_Z "jdk/internal/util/Preconditions" "SIOOBE_FORMATTER" "Ljava/util/function/BiFunction;" .null (fun q => E.2.2.1 ≤ q) U E.2.2.2.1 ∨ va_Z "jdk/internal/util/Preconditions" "SIOOBE_FORMATTER" "Ljava/util/function/BiFunction;" (.ref (E.1.2 99 3)) (fun q => E.2.2.1 ≤ q) U E.2.2.2.1)
theorem ms_str.warm {E : ms_E} {s U : State} (hW : s.WarmedH U.vm) (h : ms_str E s) : ms_str E U := by
  obtain ⟨h1, h2, h3, h4⟩ := h
  refine ⟨vk_S.moved hW.alike h1, vk_R.warm hW h2, va_Z.moved hW.alike h3, ?_⟩
  rcases h4 with h4 | h4
  · exact Or.inl (va_Z.moved hW.alike h4)
  · exact Or.inr (va_Z.moved hW.alike h4)
def ms_env (E : ms_E) (U : State) : Prop := va_K E.1 vwCl (ms_tys E) U ∧ (∀ w ∈ lw_tbl, ms_okw w = true → w.before #[] U = true) ∧ E.2.2.2.1.size = E.2.2.1 ∧ va_X E.2.2.2.2.1 E.2.2.2.2.2.1 E.2.2.2.2.2.2 U E.2.2.2.1 ∧ E.2.2.2.2.1 < E.2.2.1 ∧ ms_str E U
theorem ms_word_warm {w : Jvm.Cond} (hw : ms_okw w = true) {s U : State} (hW : s.WarmedH U.vm) (h : w.before #[] s = true) : w.before #[] U = true := by
  unfold ms_okw at hw
  split at hw
  · exact va_Nw.warmM hW h
  · exact va_Nw.warmC hW h
  · exact va_AO.moved hW.alike h
  · exact word_at hW (good_of_word hw) h
theorem ms_env.warm {E : ms_E} {s U : State} (hW : s.WarmedH U.vm) (h : ms_env E s) : ms_env E U := by
  obtain ⟨h1, h2, h3, ⟨scr, x1, x2, x3, x4, x5⟩, h5, h6⟩ := h
  exact ⟨va_K.moved hW.alike h1, fun w hw ho => ms_word_warm ho hW (h2 w hw ho), h3, ⟨scr, x1, State.isArrayOf_alike hW.alike x2, x3, x4, x5⟩, h5, ms_str.warm hW h6⟩
def ms_H (E : ms_E) (g : ms_S) (H : Heap) : Prop := va_P E.1 vwCl (ms_cc E g) H ∧ H.size = E.2.2.1 + g.length ∧ ∀ q : Nat, q < E.2.2.1 → H[q]? = E.2.2.2.1[q]?
def ms_Pc (E : ms_E) (as : List Value) (g : ms_S) : Array Value → State → Prop := fun v U => v = (as.map (ms_up E)).toArray ∧ ms_env E U ∧ ms_H E g U.heap
def ms_Qc (E : ms_E) (r : Option Value) (g : ms_S) : Array Value → State → Outcome → State → Prop := fun _ _ o t => o = .returned (r.map (ms_up E)) ∧ ms_H E g t.heap
def ms_fr (E : ms_E) : Addr → Prop := fun q => E.2.2.1 ≤ q
theorem ms_str_recv {E : ms_E} {s : State} {g : ms_S} {H : Heap} (henv : ms_env E s) (hH : ms_H E g H) : ∃ cell : Cell, H[E.1.2 99 1]? = some cell ∧ cell.vm.isStatics = false ∧ s.vm.findClass "java/lang/String" = some cell.cls := by
  obtain ⟨⟨h0, -⟩, -⟩ := henv.2.2.2.2.2
  obtain ⟨⟨cell, h1, h2, h3, h4⟩, -⟩ := h0 0 Nat.zero_lt_one
  exact ⟨cell, by rw [hH.2.2 _ (Nat.not_le.mp h4)]; exact h1, h2, h3⟩
theorem ms_up_str (E : ms_E) : ms_up E (.retAddr 1) = .ref (E.1.2 99 1) := rfl
theorem ms_blind (E : ms_E) (as : List Value) (g : ms_S) : FrameBlind (ms_Pc E as g) := by
  intro a U gf mk h
  obtain ⟨h1, h2, h3⟩ := h
  exact ⟨h1, ms_env.warm (State.WarmedH.refl U) h2, h3⟩
theorem ms_D {E : ms_E} {g : ms_S} : va_D (ms_fr E) (ms_cc E g) := by
  constructor
  · intro i j p q hi hj he
    rw [ms_cc_get] at hi hj
    cases hgi : g[i]? with
    | none => rw [hgi] at hi; cases hi
    | some x =>
      cases hgj : g[j]? with
      | none => rw [hgj] at hj; cases hj
      | some y =>
        rw [hgi] at hi; rw [hgj] at hj
        cases hi; cases hj
        simp only at he
        omega
  · intro k q hk
    rw [ms_cc_get] at hk
    cases hgk : g[k]? with
    | none => rw [hgk] at hk; cases hk
    | some x =>
      rw [hgk] at hk
      cases hk
      show E.2.2.1 ≤ E.2.2.1 + k
      omega
theorem ms_HS {E : ms_E} {g : ms_S} {H : Heap} {locs : List Loc} (hb : E.2.2.2.1.size = E.2.2.1) (h : ms_H E g H) (hL : ∀ q ∈ locs, E.2.2.1 ≤ q.base) : va_S (ms_fr E) E.2.2.2.1 H locs :=
  ⟨by rw [h.2.1, hb]; omega, fun q h1 _ => h.2.2 q (by rw [← hb]; exact h1), fun q hq => hL q hq⟩
/-- the heap's size is told by the cells and by the room -/
theorem ms_H.of {E : ms_E} {g : ms_S} {H : Heap} {locs : List Loc} (hb : E.2.2.2.1.size = E.2.2.1) (hP : va_P E.1 vwCl (ms_cc E g) H) (hS : va_S (ms_fr E) E.2.2.2.1 H locs) (hz : H.size ≤ E.2.2.1 + g.length) : ms_H E g H := by
  refine ⟨hP, ?_, fun q hq => hS.2.1 q (by rw [hb]; exact hq) (Nat.not_le.mpr hq)⟩
  refine Nat.le_antisymm hz ?_
  by_cases hg : g.length = 0
  · rw [hg, Nat.add_zero, ← hb]; exact hS.1
  · have h1 : (ms_cc E g)[g.length - 1]? = some (E.2.2.1 + (g.length - 1), ms_uc E (g[g.length - 1]'(by omega))) := by
      rw [ms_cc_get, List.getElem?_eq_getElem (by omega)]; rfl
    have h2 := (hP _ _ h1).lt
    simp only at h2
    omega
theorem ms_tot_set {g : ms_S} {k : Nat} {c d : ms_C} (h : g[k]? = some c) (hs : ms_sz d = ms_sz c) : ms_tot (g.set k d) = ms_tot g := by
  induction g generalizing k with
  | nil => simp at h
  | cons a r ih =>
    cases k with
    | zero =>
      simp only [List.getElem?_cons_zero, Option.some.injEq] at h
      subst h
      simp [ms_tot, hs]
    | succ k =>
      simp only [List.getElem?_cons_succ] at h
      simp [ms_tot, ih h]
theorem ms_tot_app (g : ms_S) (c : ms_C) : ms_tot (g ++ [c]) = ms_tot g + ms_sz c := by
  induction g with
  | nil => simp [ms_tot]
  | cons a r ih => simp [ms_tot, ih, Nat.add_assoc]
theorem ms_up_cat (E : ms_E) (v : Value) (h : ∀ x, v ≠ .retAddr x) : (ms_up E v).category = v.category := by cases v <;> first | rfl | exact absurd rfl (h _)
theorem ms_up_cat' (E : ms_E) (v : Value) : (ms_up E v).category = v.category := by cases v <;> rfl
def ms_ul (E : ms_E) (l : ms_L) : List (Nat × Value) := l.map fun q => (q.1, ms_up E q.2)
theorem ms_lget_mem {l : ms_L} {k : Nat} {v : Value} (h : ms_lget l k = some v) : (k, v) ∈ l := by
  induction l with
  | nil => cases h
  | cons q r ih =>
    obtain ⟨j, w⟩ := q
    simp only [ms_lget] at h
    cases hb : Nat.beq j k with
    | true =>
      rw [hb] at h
      simp only [cond_true, Option.some.injEq] at h
      have hj := Nat.eq_of_beq_eq_true hb
      subst hj; subst h
      exact List.mem_cons_self
    | false =>
      rw [hb] at h
      exact List.mem_cons_of_mem _ (ih h)
theorem ms_lget_at {E : ms_E} {l : ms_L} {k n : Nat} {v : Value} {arr : Array Slot} (h : ms_lget l k = some v) (hl : lv_has arr n (ms_ul E l)) : arr[k]? = some (.val (ms_up E v)) :=
  hl.2.2 (k, ms_up E v) (List.mem_map.mpr ⟨(k, v), ms_lget_mem h, rfl⟩)
theorem ms_ins_mem {i : Nat} {v : Value} {l : ms_L} {q : Nat × Value} (h : q ∈ ms_ins i v l) : q = (i, v) ∨ q ∈ l := by
  induction l with
  | nil => simp [ms_ins] at h; exact Or.inl h
  | cons a r ih =>
    obtain ⟨j, w⟩ := a
    simp only [ms_ins] at h
    cases hb : Nat.ble i j with
    | true =>
      rw [hb] at h
      simp only [cond_true, List.mem_cons] at h
      rcases h with h | h
      · exact Or.inl h
      · exact Or.inr (List.mem_cons.mpr h)
    | false =>
      rw [hb] at h
      simp only [cond_false, List.mem_cons] at h
      rcases h with h | h
      · exact Or.inr (List.mem_cons.mpr (Or.inl h))
      · rcases ih h with h | h
        · exact Or.inl h
        · exact Or.inr (List.mem_cons_of_mem _ h)
theorem ms_out_mem {i : Nat} {two : Bool} {l : ms_L} {q : Nat × Value} (h : q ∈ ms_out i two l) : q ∈ l ∧ q.1 ≠ i ∧ (two = true → q.1 ≠ i + 1) ∧ ¬ (q.1 + 1 = i ∧ q.2.category = 2) := by
  induction l with
  | nil => cases h
  | cons a r ih =>
    obtain ⟨j, w⟩ := a
    simp only [ms_out] at h
    cases hb : (Nat.beq j i || (two && Nat.beq j (i + 1)) || (Nat.beq (j + 1) i && Nat.beq w.category 2)) with
    | true =>
      rw [hb] at h
      exact ⟨List.mem_cons_of_mem _ (ih h).1, (ih h).2⟩
    | false =>
      rw [hb] at h
      simp only [cond_false, List.mem_cons] at h
      rcases h with h | h
      · subst h
        simp only [Bool.or_eq_false_iff, Bool.and_eq_false_iff] at hb
        obtain ⟨⟨b1, b2⟩, b3⟩ := hb
        refine ⟨List.mem_cons_self, fun e => ?_, fun e1 e2 => ?_, fun e => ?_⟩
        · have := Nat.ne_of_beq_eq_false b1; exact this e
        · rcases b2 with b2 | b2
          · rw [e1] at b2; cases b2
          · exact Nat.ne_of_beq_eq_false b2 e2
        · rcases b3 with b3 | b3
          · exact Nat.ne_of_beq_eq_false b3 e.1
          · exact Nat.ne_of_beq_eq_false b3 e.2
      · exact ⟨List.mem_cons_of_mem _ (ih h).1, (ih h).2⟩
theorem ms_lset_has1 {E : ms_E} {l : ms_L} {i n : Nat} {v w : Value} (hw : w = ms_up E v) (hc : v.category = 1) {arr : Array Slot} (h : lv_has arr n ((i, w) :: (ms_ul E l).filter (fun q => !(q.1 == i) && !(q.1 + 1 == i && q.2.category == 2)))) : lv_has arr n (ms_ul E (ms_lset l i v)) := by
  refine ⟨h.1, h.2.1, fun q hq => h.2.2 q ?_⟩
  obtain ⟨q0, hq0, rfl⟩ := List.mem_map.mp hq
  rcases ms_ins_mem hq0 with e | e
  · subst e
    rw [hw]; exact List.mem_cons_self
  · have h2 := ms_out_mem e
    refine List.mem_cons_of_mem _ (List.mem_filter.mpr ⟨List.mem_map.mpr ⟨q0, h2.1, rfl⟩, ?_⟩)
    simp only [ms_up_cat', Bool.and_eq_true, Bool.not_eq_true', beq_eq_false_iff_ne, ne_eq, Bool.and_eq_false_iff]
    refine ⟨h2.2.1, ?_⟩
    rcases Nat.decEq (q0.1 + 1) i with c | c
    · exact Or.inl c
    · exact Or.inr fun c2 => h2.2.2.2 ⟨c, c2⟩
theorem ms_lset_has2 {E : ms_E} {l : ms_L} {i n : Nat} {v w : Value} (hw : w = ms_up E v) (hc : v.category = 2) {arr : Array Slot} (h : lv_has arr n ((i, w) :: (ms_ul E l).filter (fun q => !(q.1 == i) && (!(q.1 == i + 1) && !(q.1 + 1 == i && q.2.category == 2))))) : lv_has arr n (ms_ul E (ms_lset l i v)) := by
  refine ⟨h.1, h.2.1, fun q hq => h.2.2 q ?_⟩
  obtain ⟨q0, hq0, rfl⟩ := List.mem_map.mp hq
  rcases ms_ins_mem hq0 with e | e
  · subst e
    rw [hw]; exact List.mem_cons_self
  · have h2 := ms_out_mem e
    refine List.mem_cons_of_mem _ (List.mem_filter.mpr ⟨List.mem_map.mpr ⟨q0, h2.1, rfl⟩, ?_⟩)
    simp only [ms_up_cat', Bool.and_eq_true, Bool.not_eq_true', beq_eq_false_iff_ne, ne_eq, Bool.and_eq_false_iff]
    refine ⟨h2.2.1, h2.2.2.1 (by rw [hc]; rfl), ?_⟩
    rcases Nat.decEq (q0.1 + 1) i with c | c
    · exact Or.inl c
    · exact Or.inr fun c2 => h2.2.2.2 ⟨c, c2⟩
theorem ms_keep_mem {ks : List Nat} {l : ms_L} {q : Nat × Value} (h : q ∈ ms_keep ks l) : q ∈ l := by
  induction l with
  | nil => cases h
  | cons a r ih =>
    obtain ⟨j, w⟩ := a
    simp only [ms_keep] at h
    cases hb : ms_mem j ks with
    | true =>
      rw [hb] at h
      simp only [cond_true, List.mem_cons] at h
      rcases h with h | h
      · exact List.mem_cons.mpr (Or.inl h)
      · exact List.mem_cons_of_mem _ (ih h)
    | false =>
      rw [hb] at h
      exact List.mem_cons_of_mem _ (ih h)
