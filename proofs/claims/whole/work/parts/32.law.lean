/-! THE LAW'S WALK out of the short machine -/
theorem ms_word_args {w : Jvm.Cond} (hw : ms_okw w = true) {s : State} {A : Array Value} (h : w.before A s = true) : w.before #[] s = true := by
  unfold ms_okw at hw
  split at hw
  · exact va_Nw.of rfl h
  · exact va_Nw.of rfl h
  · exact h
  · rcases good_of_word hw with h1 | ⟨ty, h1⟩
    · simp only [Bool.and_eq_true] at h1
      exact va_Nw.of h1.1 h
    · subst h1; exact h
theorem ms_inst0 : Jvm.Cond.instantiable RX0 9 ∈ lw_tbl := ms_w_mem (pl := 194) (by decide +kernel)
theorem ms_inst1 : Jvm.Cond.instantiable RX1 15 ∈ lw_tbl := ms_w_mem (pl := 255) (by decide +kernel)
theorem ms_inst2 : Jvm.Cond.instantiable RX2 3 ∈ lw_tbl := ms_w_mem (pl := 238) (by decide +kernel)
theorem ms_inst3 : Jvm.Cond.instantiable RX3 11 ∈ lw_tbl := ms_w_mem (pl := 310) (by decide +kernel)
theorem ms_inst4 : Jvm.Cond.instantiable RX4 4 ∈ lw_tbl := ms_w_mem (pl := 353) (by decide +kernel)
theorem ms_inst5 : Jvm.Cond.instantiable RX5 10 ∈ lw_tbl := ms_w_mem (pl := 156) (by decide +kernel)
theorem ms_inst6 : Jvm.Cond.instantiable RX6 2 ∈ lw_tbl := ms_w_mem (pl := 140) (by decide +kernel)
theorem ms_inst7 : Jvm.Cond.instantiable RX7 2 ∈ lw_tbl := ms_w_mem (pl := 671) (by decide +kernel)
theorem ms_inst8 : Jvm.Cond.instantiable RX8 13 ∈ lw_tbl := ms_w_mem (pl := 132) (by decide +kernel)
theorem ms_inst9 : Jvm.Cond.instantiable RX9 52 ∈ lw_tbl := ms_w_mem (pl := 1099) (by decide +kernel)
theorem ms_inst : ∀ k, k < 10 → ∃ n, Jvm.Cond.instantiable (ms_R k) n ∈ lw_tbl := by
  intro k h
  match k, h with
  | 0, _ => exact ⟨9, ms_inst0⟩
  | 1, _ => exact ⟨15, ms_inst1⟩
  | 2, _ => exact ⟨3, ms_inst2⟩
  | 3, _ => exact ⟨11, ms_inst3⟩
  | 4, _ => exact ⟨4, ms_inst4⟩
  | 5, _ => exact ⟨10, ms_inst5⟩
  | 6, _ => exact ⟨2, ms_inst6⟩
  | 7, _ => exact ⟨2, ms_inst7⟩
  | 8, _ => exact ⟨13, ms_inst8⟩
  | 9, _ => exact ⟨52, ms_inst9⟩
  | n + 10, h => exact absurd h (by omega)
set_option maxRecDepth 100000 in
theorem ms_classes {s : State} {A : Array Value} (hts : ∀ w ∈ lw_tbl, w.before A s = true) : ∃ (dC : Nat → ClassId) (dI : Nat → Nat → Nat), ∀ (k : Nat) (q : vw_C), vwCl[k]? = some q → u_Kn s q.1 q.2.1 q.2.2 (dC k) (dI k) := by
  have h1 : ∀ k : Nat, ∃ q : ClassId × (Nat → Nat), ∀ r : vw_C, vwCl[k]? = some r → u_Kn s r.1 r.2.1 r.2.2 q.1 q.2 := by
    intro k
    by_cases hk : k < 10
    · obtain ⟨c1, c2, c3, c4⟩ := ms_cls k hk
      have hin : ∀ w ∈ u_ws (ms_R k) (ms_T k) (ms_N k), w ∈ lw_tbl := fun w hw => by
        have h := List.all_eq_true.mp c2 w hw
        simp only [Bool.and_eq_true, decide_eq_true_eq] at h
        exact h.1.1
      have hi : ∃ n, (Cond.instantiable (ms_R k) n).before A s = true := by
        obtain ⟨n, hn⟩ := ms_inst k hk
        exact ⟨n, hts _ hn⟩
      obtain ⟨n, hi⟩ := hi
      obtain ⟨cC, iS, hKn⟩ := u_known (C := ms_R k) (T := ms_T k) (N := ms_N k) (n := n) hts hin hi
      refine ⟨(cC, iS), fun r hr => ?_⟩
      have e := Option.some.inj (c1.symm.trans hr)
      subst e
      exact hKn
    · refine ⟨(0, fun _ => 0), fun r hr => ?_⟩
      have := (List.getElem?_eq_some_iff.mp hr).1
      simp [vwCl] at this
      omega
  obtain ⟨q, hq⟩ := Classical.axiomOfChoice h1
  exact ⟨fun k => (q k).1, fun k => (q k).2, fun k r hr => hq k r hr⟩
theorem ms_arrC {s : State} {ty : FieldType} (h : (Cond.arrayClass ty).before #[] s = true) (hty : ∀ C, ty ≠ .object C) : ∃ cA : ClassId, ArrOfT s cA ty ∧ va_RA s cA ty := by
  obtain ⟨cA, kA, comp, h1, h2, h3⟩ := Cond.arrayClass_spec (show (Cond.arrayClass ty).holds #[] s none s [] = true from h)
  refine ⟨cA, fun n z => ⟨fun k h => (by cases h), kA, h2, comp, h3⟩, ?_⟩
  cases ty with
  | object C => exact absurd rfl (hty C)
  | _ => exact h1
theorem ms_arrO {s : State} {C : String} (h : (Cond.arrayOver (.object C)).before #[] s = true) : ∃ cA : ClassId, ArrOfT s cA (.object C) ∧ va_RA s cA (.object C) := by
  obtain ⟨comp, c, k, h1, h2, h3, h4, h5⟩ := Cond.arrayOver_spec (show (Cond.arrayOver (.object C)).holds #[] s none s [] = true from h)
  exact ⟨c, fun n z => ⟨fun k h => (by cases h), k, h3, comp, h4⟩, k, comp, h3, h4, h1, h5⟩
/-! the one String, out of what the Statement gives -/
def ms_NW : Jvm.Cond := Jvm.Cond.and given_1 narrow_1
def ms_ts : Term := .string RX5 133
def ms_tv : Term := .field ms_ts "java/lang/String" "value" "[B"
set_option maxRecDepth 100000 in
theorem ms_str0 : (flatC ms_NW)[4]? = some (.eq (.static "java/lang/String" "COMPACT_STRINGS" "Z") (.int 1)) ∧ (flatC ms_NW)[5]? = some (.isRef (.static "jdk/internal/util/Preconditions" "SIOOBE_FORMATTER" "Ljava/util/function/BiFunction;")) ∧ (flatC ms_NW)[29]? = some (.exactly ms_ts "java/lang/String") ∧ (flatC ms_NW)[30]? = some (.eq (.field ms_ts "java/lang/String" "coder" "B") (.int 0)) ∧ (flatC ms_NW)[31]? = some (.arrayOf ms_tv .byte) ∧ (flatC ms_NW)[32]? = some (.eq (.length ms_tv) (.int 101)) := by decide +kernel
set_option maxRecDepth 100000 in
theorem ms_str1 : ((flatC ms_NW).drop 33).take 101 = (List.range 101).map (fun j => Cond.eq (.elem ms_tv (.int (Int32.ofNat j))) (.int (ms_wb.getD j 0))) := by decide +kernel
theorem ms_strE {s : State} {b : Nat} (hts : ∀ w ∈ lw_tbl, w.before #[Value.ref b] s = true) (hgv : ms_NW.before #[Value.ref b] s = true) : ∃ sa : Nat → Nat, vk_S 1 [101] [ms_wb] (fun _ => sa 1) (fun _ => sa 2) (fun q => s.heap.size ≤ q) s s.heap ∧ vk_R RX5 133 ms_tx (sa 1) s ∧ va_Z "java/lang/String" "COMPACT_STRINGS" "Z" (.int 1) (fun q => s.heap.size ≤ q) s s.heap ∧ (va_Z "jdk/internal/util/Preconditions" "SIOOBE_FORMATTER" "Ljava/util/function/BiFunction;" .null (fun q => s.heap.size ≤ q) s s.heap ∨ va_Z "jdk/internal/util/Preconditions" "SIOOBE_FORMATTER" "Ljava/util/function/BiFunction;" (.ref (sa 3)) (fun q => s.heap.size ≤ q) s s.heap) := by
  have hN := flat_of_before ms_NW hgv
  have hA : ∀ a : Nat, a < s.heap.size → ¬ (fun q => s.heap.size ≤ q) a := fun a h => Nat.not_le.mpr h
  obtain ⟨q4, q5, q29, q30, q31, q32⟩ := ms_str0
  have m4 := hN _ (List.mem_of_getElem? q4)
  have m5 := hN _ (List.mem_of_getElem? q5)
  have hi : ∀ i : Nat, i < 1 → i = 0 := fun i h => by omega
  obtain ⟨adK, adV, hS, hE⟩ := vk_Sof (args := #[Value.ref b]) (s := s) (N := 1) (tm := fun _ => ms_ts) (len := [101]) (byt := [ms_wb]) (A := fun q => s.heap.size ≤ q)
    (fun i h => by rw [hi i h]; exact Nat.le_of_ble_eq_true rfl)
    (fun i h => hN _ (List.mem_of_getElem? q29)) (fun i h => hN _ (List.mem_of_getElem? q30)) (fun i h => hN _ (List.mem_of_getElem? q31))
    (fun i h => by rw [hi i h]; exact hN _ (List.mem_of_getElem? q32))
    (fun i h j hj => by
      rw [hi i h] at hj ⊢
      have hm : Cond.eq (.elem ms_tv (.int (Int32.ofNat j))) (.int (ms_wb.getD j 0)) ∈ ((flatC ms_NW).drop 33).take 101 := by
        rw [ms_str1]
        exact List.mem_map.mpr ⟨j, List.mem_range.mpr hj, rfl⟩
      exact hN _ (List.mem_of_mem_drop (List.mem_of_mem_take hm)))
    (fun i j h1 h2 h3 => absurd ((hi i h1).trans (hi j h2).symm) h3) hA
  have hini : (Cond.initialized "java/lang/String").before #[Value.ref b] s = true := hts _ (ms_w_mem (pl := 123) (by decide +kernel))
  have hini2 : (Cond.initialized "jdk/internal/util/Preconditions").before #[Value.ref b] s = true := hts _ (ms_w_mem (pl := 125) (by decide +kernel))
  have hl1 : (Cond.laysStatic "java/lang/String" "COMPACT_STRINGS" "Z").before #[Value.ref b] s = true := hts _ (ms_w_mem (pl := 563) (by decide +kernel))
  have hl2 : (Cond.laysStatic "jdk/internal/util/Preconditions" "SIOOBE_FORMATTER" "Ljava/util/function/BiFunction;").before #[Value.ref b] s = true := hts _ (ms_w_mem (pl := 579) (by decide +kernel))
  have hR : vk_R RX5 133 ms_tx (adK 0) s := vk_R.of (hts _ (ms_w_mem (pl := 553) (by decide +kernel))) (hE 0 Nat.zero_lt_one)
  have hZ : va_Z "java/lang/String" "COMPACT_STRINGS" "Z" (.int 1) (fun q => s.heap.size ≤ q) s s.heap := va_Zof hl1 hini (va_eqi m4) hA
  have hS2 : ∀ sa : Nat → Nat, sa 1 = adK 0 → sa 2 = adV 0 → vk_S 1 [101] [ms_wb] (fun _ => sa 1) (fun _ => sa 2) (fun q => s.heap.size ≤ q) s s.heap := fun sa e1 e2 =>
    ⟨fun i h => by
      have h0 := hS.1 0 Nat.zero_lt_one
      rw [hi i h, e1, e2]
      exact h0, fun i j h1 h2 _ => (hi i h1).trans (hi j h2).symm⟩
  rcases va_Zqof hl2 hini2 m5 hA with hq | ⟨t, hq⟩
  · exact ⟨fun j => if j = 1 then adK 0 else adV 0, hS2 (fun j => if j = 1 then adK 0 else adV 0) rfl rfl, hR, hZ, Or.inl hq⟩
  · exact ⟨fun j => if j = 1 then adK 0 else if j = 2 then adV 0 else t, hS2 (fun j => if j = 1 then adK 0 else if j = 2 then adV 0 else t) rfl rfl, hR, hZ, Or.inr hq⟩
set_option maxHeartbeats 4000000 in
set_option maxRecDepth 100000 in
theorem ms_law {p : Program} {e : Env} {s : State} {m : MethodId} {below : List Frame} {meth : Method} {c : Code} (l : Launch) {b L : Nat} {xs : Nat → Int32} (C0 : lw_At p s m meth c b L xs)
    (h : ms_V cd_law (some (L, xs)) 4 (ms_Cl 1000) (fun r g => r = some (.int 1) ∧ g.length ≤ 600000 ∧ ms_tot g ≤ 7302250) 0 [(0, .retAddr 0)] [] []) : W p l e room_1 s m #[Value.ref b] below meth c s.heap [] 0 0 (lw_Z below #[Value.ref b] s) (entryFrame m ([Value.ref b] : List Value).toArray 4) := by
  obtain ⟨hx, hb, hr, hml, hown, hts, hX, hbl, hlocks, hgv⟩ := C0
  obtain ⟨dC, dI, hcl⟩ := ms_classes hts
  have hw0 : ∀ w ∈ lw_tbl, ms_okw w = true → w.before #[] s = true := fun w hw ho => ms_word_args ho (hts w hw)
  obtain ⟨a0, ha0⟩ := ms_arrC (hw0 (.arrayClass .int) (ms_w_mem (pl := 154) (by decide +kernel)) rfl) (fun C h => by cases h)
  obtain ⟨a1, ha1⟩ := ms_arrC (hw0 (.arrayClass .long) (ms_w_mem (pl := 253) (by decide +kernel)) rfl) (fun C h => by cases h)
  obtain ⟨a2, ha2⟩ := ms_arrC (hw0 (.arrayClass .boolean) (ms_w_mem (pl := 308) (by decide +kernel)) rfl) (fun C h => by cases h)
  obtain ⟨a3, ha3⟩ := ms_arrO (hw0 (.arrayOver (.object RX7)) (ms_w_mem (pl := 200) (by decide +kernel)) rfl)
  obtain ⟨a4, ha4⟩ := ms_arrO (hw0 (.arrayOver (.object RX0)) (ms_w_mem (pl := 375) (by decide +kernel)) rfl)
  obtain ⟨sa, hsa⟩ := ms_strE hts hgv
  generalize hE : (((dC, fun k => if k = 99 then sa else dI k), (fun k => if k = 0 then a0 else if k = 1 then a1 else if k = 2 then a2 else if k = 3 then a3 else a4), s.heap.size, s.heap, b, L, xs) : ms_E) = E
  have e1 : E.2.2.1 = s.heap.size := by rw [← hE]
  have e2 : E.2.2.2.1 = s.heap := by rw [← hE]
  have e3 : E.2.2.2.2.1 = b := by rw [← hE]
  have e4 : E.2.2.2.2.2.1 = L := by rw [← hE]
  have e5 : E.2.2.2.2.2.2 = xs := by rw [← hE]
  have e6 : E.1.2 99 = sa := by rw [← hE]; rfl
  have henv : ms_env E s := by
    refine ⟨⟨fun k q hq => ?_, fun k q hq => ?_⟩, hw0, by rw [e1, e2], by rw [e2, e3, e4, e5]; exact hX, by rw [e1, e3]; exact hbl, by unfold ms_str; rw [e1, e2, e6]; exact hsa⟩
    · have hk : ¬ k = 99 := by
        have := (List.getElem?_eq_some_iff.mp hq).1
        simp [vwCl] at this
        omega
      have h0 := hcl k q hq
      rw [← hE]
      show u_Kn s q.1 q.2.1 q.2.2 (dC k) (if k = 99 then sa else dI k)
      rw [if_neg hk]
      exact h0
    · rw [← hE] at hq
      match k, hq with
      | 0, hq => cases hq; exact ha0
      | 1, hq => cases hq; exact ha1
      | 2, hq => cases hq; exact ha2
      | 3, hq => cases hq; exact ha3
      | 4, hq => cases hq; exact ha4
      | k + 5, hq => simp [ms_tys] at hq
  have hH : ms_H E [] s.heap := ⟨fun k q h => by simp [ms_cc] at h, by rw [e1]; rfl, fun q _ => by rw [e2]⟩
  have C : ms_Ctx p room_1 s m meth c E code "SlipTreesLaw" "law" 4 0 1000 := ⟨hx, hb, hml, hown, fun h => absurd h (by decide), henv, (by rw [e1]; rfl), Nat.le_of_ble_eq_true rfl, Nat.le_of_ble_eq_true rfl⟩
  have hR3 : room_1.cells = 600000 := rfl
  have hR4 : room_1.slots = 7302250 := rfl
  have key := h (ms_P p l e room_1 s m #[Value.ref b] below meth c (lw_Z below #[Value.ref b] s) E 4 0 0) ?_ ?_
  · obtain ⟨-, -, w⟩ := key (Nat.zero_le _) (Nat.zero_le _)
    rw [lg_entry_eq]
    refine w s.heap [] _ ?_ hH (fun q hq => by cases hq)
    have hl := lv_entry ([Value.ref b]) (n := 4) (Nat.le_of_ble_eq_true rfl)
    have hu : ms_ul E [(0, .retAddr 0)] = lv_args 0 [Value.ref b] := by
      show [(0, Value.ref E.2.2.2.2.1)] = [(0, Value.ref b)]
      rw [e3]
    rw [hu]
    exact hl
  · intro pc ei ls st g1 hf hw
    obtain ⟨o1, o2, o3⟩ := ms_okC_of ok_law hf
    rw [← o3]
    refine ms_close C (Or.inr (by rw [e4, e5])) ?_ ?_ ?_ ?_ o1 o2 hw
    · intro pc ls x g2 hd hrt hq
      obtain ⟨q1, q2, q3⟩ := hq
      intro _ _
      refine ⟨by omega, by omega, fun H locs arr ha hH2 hL => ?_⟩
      have hx1 : x = 1 := by cases q1; rfl
      subst hx1
      refine va_forget (fun q hq => by have := hL q hq; rw [e1] at this; exact this) ?_
      refine W.widen (k := 600000) (n := 7302250) (by omega) (by omega) ?_
      exact lw_ret hx hb hr hlocks hd
    · intro pc ls x g2 hd hrt hq
      obtain ⟨q1, -⟩ := hq
      cases q1
    · intro pc ls v g2 hd hrt hv hq
      obtain ⟨q1, -⟩ := hq
      rcases hv with rfl | ⟨a, rfl⟩ <;> cases q1
    · intro pc ls g2 hd hrt hq
      obtain ⟨q1, -⟩ := hq
      cases q1
  · intro pc ls ls' st g1 hs hw
    exact ms_P.weaken hw hs
