/-! THE STRING OF WORDS: length() and charAt(), by the kit's rows; written by wip/whole/mdl.py from zz_f.txt -/
/-- the instructions that the short machine has not -/
def st_X (own : String) (cc : ByteArray) (ret : Option FieldType) (r : Option Value) (g : ms_S) (P : ms_K) : Prop :=
  (∀ (pc : Nat) (ls : ms_L) (st : List Value), own = RJ0 → decode cc pc = .ok (.getfield 9, 3) → P (pc + 3) ls (.retAddr 2 :: st) g → P pc ls (.retAddr 1 :: st) g) ∧
  (∀ (pc : Nat) (ls : ms_L) (st : List Value), own = RJ0 → decode cc pc = .ok (.getfield 15, 3) → P (pc + 3) ls (.int 0 :: st) g → P pc ls (.retAddr 1 :: st) g) ∧
  (∀ (pc : Nat) (ls : ms_L) (st : List Value), own = RJ0 → decode cc pc = .ok (.getstatic 38, 3) → P (pc + 3) ls (.int 1 :: st) g → P pc ls st g) ∧
  (∀ (pc : Nat) (ls : ms_L) (st : List Value), own = RJ0 → decode cc pc = .ok (.getstatic 1053, 3) → (∀ v : Value, (v = .null ∨ v = .retAddr 3) → P (pc + 3) ls (v :: st) g) → P pc ls st g) ∧
  (∀ (pc : Nat) (ls : ms_L) (st : List Value), decode cc pc = .ok (.arraylength, 1) → P (pc + 1) ls (.int 101 :: st) g → P pc ls (.retAddr 2 :: st) g) ∧
  (∀ (pc : Nat) (ls : ms_L) (st : List Value) (i : Nat), decode cc pc = .ok (.baload, 1) → i < 101 → P (pc + 1) ls (.int (ms_wb.getD i 0) :: st) g → P pc ls (.int (nI i) :: .retAddr 2 :: st) g) ∧
  (∀ (pc : Nat) (ls : ms_L) (st : List Value) (x : Int32), decode cc pc = .ok (.i2c, 1) → P (pc + 1) ls (.int (x.toUInt32 % 65536).toInt32 :: st) g → P pc ls (.int x :: st) g) ∧
  (∀ (pc : Nat) (ls : ms_L) (x : Int32) (ty : FieldType), decode cc pc = .ok (.ireturn, 1) → ret = some ty → narrow ty (.int x) = .int x → r = some (.int x) → P pc ls [.int x] g)
set_option maxRecDepth 100000 in
theorem st_w1 : ms_isw 1755 (.fieldLink RJ0 9 "java/lang/String" "value" "[B") = true := by decide +kernel
set_option maxRecDepth 100000 in
theorem st_w2 : ms_isw 1756 (.fieldLink RJ0 15 "java/lang/String" "coder" "B") = true := by decide +kernel
set_option maxRecDepth 100000 in
theorem st_w3 : ms_isw 562 (.fieldLink RJ0 38 "java/lang/String" "COMPACT_STRINGS" "Z") = true := by decide +kernel
set_option maxRecDepth 100000 in
theorem st_w4 : ms_isw 578 (.fieldLink RJ0 1053 "jdk/internal/util/Preconditions" "SIOOBE_FORMATTER" "Ljava/util/function/BiFunction;") = true := by decide +kernel
theorem st_met {d y : Nat} {as : List Value} {g : ms_S} {r : Option Value} {rt maxL : Nat} {l0 : ms_L} (cd : List (List ms_I)) (hc : ms_okC (ms_Y y).1.cls (ms_Y y).1.name (ms_Y y).2.2.1 (ms_Y y).2.1 cd = true) (hpl : plainName (ms_Y y).1.cls = true) (hrt : ms_rt (ms_Y y).2.2.2.1 = rt) (hml : (ms_Y y).2.2.1 = maxL) (hlen : (lg_sl as).length ≤ maxL) (hl : lv_args 0 as = l0) (hrc : ms_recv y as g)
    (h : ∀ P : ms_K, (∀ (pc : Nat) (e : ms_I) (ls : ms_L) (st : List Value) (g1 : ms_S), ms_fetch cd pc = some e → ms_wi none rt (ms_Cl d) (fun r1 g2 => r1 = r ∧ g2 = g) P e ls st g1 → P pc ls st g1) → st_X (ms_Y y).1.cls (ms_Y y).2.1 (ms_Y y).2.2.2.1 r g P → P 0 l0 [] g) : ms_Cl (d + 1) y as g r g := by
  subst hrt; subst hml; subst hl
  refine ⟨Nat.le_refl _, Nat.le_refl _, hrc, fun E l => ?_⟩
  refine Met.ofW (cc := (ms_Y y).2.1) (maxL := (ms_Y y).2.2.1) (ret := (ms_Y y).2.2.2.1) (ws' := []) hpl rfl ?_
  intro p e s m args below meth c s₁ B hml hv
  obtain ⟨rfl, henv, hH⟩ := hv
  have hx := B.exec
  have hb := B.bytes
  have hr := B.returns
  have hown : s.vm.findClass (ms_Y y).1.cls = some m.cls := findClass_of_methodNamed B.named
  have hlocks := B.notSynchronized
  have hin : meth.name = (ms_Y y).1.name := (name_of_methodNamed B.named B.method).1
  generalize hR : (headSpec [Jvm.Cond.code (ms_Y y).1 (ms_Y y).2.1 (ms_Y y).2.2.1 (ms_Y y).2.2.2.1] ({ frames := d + 1, cells := g.length - g.length, slots := ms_tot g - ms_tot g, locals := 61 * (d + 1) } : Room)).room = R
  have hR1 : R.frames = d + 1 := by rw [← hR]; rfl
  have hR2 : R.locals = 61 * (d + 1) := by rw [← hR]; rfl
  have hR3 : R.cells = g.length - g.length := by rw [← hR]; rfl
  have hR4 : R.slots = ms_tot g - ms_tot g := by rw [← hR]; rfl
  have C : ms_Ctx p R s m meth c E (ms_Y y).2.1 (ms_Y y).1.cls (ms_Y y).1.name (ms_Y y).2.2.1 g.length d := ⟨hx, hb, hml, hown, fun h => by rw [hin]; exact h, henv, hH.2.1, by omega, by omega⟩
  have hA0 : ∀ a : Nat, a < E.2.2.2.1.size → ¬ (E.2.2.1 ≤ a) → s.heap[a]? = E.2.2.2.1[a]? := fun a _ h => hH.2.2 a (Nat.not_le.mp h)
  have hS : ∀ (H : Heap) (locs : List Loc), ms_H E g H → (∀ q ∈ locs, E.2.2.1 ≤ q.base) → va_S (fun q => E.2.2.1 ≤ q) s.heap H locs := fun H locs hH2 hL => ⟨by rw [hH.2.1, hH2.2.1]; exact Nat.le_refl _, fun q _ hq => by rw [hH2.2.2 q (Nat.not_le.mp hq), hH.2.2 q (Nat.not_le.mp hq)], hL⟩
  obtain ⟨⟨hs, -⟩, -, hZ, hF⟩ := henv.2.2.2.2.2
  obtain ⟨-, o2, o3, o4⟩ := hs 0 Nat.zero_lt_one
  have key := h (ms_P p l e R s m (as.map (ms_up E)).toArray below meth c (MQ below (ms_Qc E r g) (as.map (ms_up E)).toArray s (g.length - g.length) (ms_tot g - ms_tot g) (ms_fr E)) E (ms_Y y).2.2.1 g.length (ms_tot g)) ?_ ?_
  · obtain ⟨-, -, w⟩ := key (Nat.le_refl _) (Nat.le_refl _)
    rw [lg_entry_eq]
    have h0 : g.length - g.length = 0 := Nat.sub_self _
    have h1 : ms_tot g - ms_tot g = 0 := Nat.sub_self _
    rw [h0, h1] at w ⊢
    refine w s.heap [] _ ?_ hH (fun q hq => by cases hq)
    rw [ms_lv_up]
    exact lv_entry (as.map (ms_up E)) (by rw [ms_sl_len]; exact hlen)
  · intro pc ei ls st g1 hf hw
    obtain ⟨q1, q2, q3⟩ := ms_okC_of hc hf
    rw [← q3]
    refine ms_close C (Or.inl rfl) ?_ ?_ ?_ ?_ q1 q2 hw
    · intro pc ls x g2 hd hrt hq
      obtain ⟨q1, q2⟩ := hq
      subst q2
      intro _ _
      refine ⟨by omega, by omega, fun H locs arr ha hH2 hL => ?_⟩
      generalize hret : (ms_Y y).2.2.2.1 = ret at hr hrt
      have hq2 : ∀ t : State, t.heap = H → s.WarmedH t.vm → ms_Qc E r g2 (as.map (ms_up E)).toArray s (.returned (some (.int x))) t := fun t ht _ => ⟨by rw [← q1]; rfl, by rw [ht]; exact hH2⟩
      have hrt2 : (ret = some .int) ∨ (ret = some .boolean ∧ (x = 0 ∨ x = 1)) := by
        rcases hrt with h5 | ⟨h5, h6⟩
        · left
          unfold ms_rt at h5
          split at h5 <;> first | rfl | cases h5
        · right
          unfold ms_rt at h5
          split at h5 <;> first | exact ⟨rfl, h6⟩ | cases h5
      rcases hrt2 with h5 | ⟨h5, h6⟩
      · exact W.iret hx hb (by rw [hr, h5]) hq2 hL hd hlocks
      · refine W.zret hx hb (by rw [hr, h5]) ?_ hq2 hL hd hlocks
        rcases h6 with rfl | rfl <;> rfl
    · intro pc ls x g2 hd hrt hq
      obtain ⟨q1, q2⟩ := hq
      subst q2
      intro _ _
      refine ⟨by omega, by omega, fun H locs arr ha hH2 hL => ?_⟩
      generalize hret : (ms_Y y).2.2.2.1 = ret at hr hrt
      have hq2 : ∀ t : State, t.heap = H → s.WarmedH t.vm → ms_Qc E r g2 (as.map (ms_up E)).toArray s (.returned (some (.long x))) t := fun t ht _ => ⟨by rw [← q1]; rfl, by rw [ht]; exact hH2⟩
      have hrt2 : ret = some .long := by
        unfold ms_rt at hrt
        split at hrt <;> first | rfl | cases hrt
      exact W.lret hx hb (by rw [hr, hrt2]) hq2 hL hd hlocks
    · intro pc ls v g2 hd hrt hv hq
      obtain ⟨q1, q2⟩ := hq
      subst q2
      intro _ _
      refine ⟨by omega, by omega, fun H locs arr ha hH2 hL => ?_⟩
      generalize hret : (ms_Y y).2.2.2.1 = ret at hr hrt
      have hq2 : ∀ t : State, t.heap = H → s.WarmedH t.vm → ms_Qc E r g2 (as.map (ms_up E)).toArray s (.returned (some (ms_up E v))) t := fun t ht _ => ⟨by rw [← q1]; rfl, by rw [ht]; exact hH2⟩
      have hrt2 : ∃ rt0, ret = some rt0 ∧ ((∃ n, rt0 = .object n) ∨ ∃ t, rt0 = .array t) := by
        unfold ms_rt at hrt
        split at hrt <;> first | exact ⟨_, rfl, Or.inl ⟨_, rfl⟩⟩ | exact ⟨_, rfl, Or.inr ⟨_, rfl⟩⟩ | cases hrt
      obtain ⟨rt0, h5, h6⟩ := hrt2
      refine W.aret hx hb (by rw [hr, h5]) h6 ?_ hq2 hL hd hlocks
      rcases hv with rfl | ⟨a, rfl⟩
      · exact Or.inl rfl
      · exact Or.inr ⟨_, rfl⟩
    · intro pc ls g2 hd hrt hq
      obtain ⟨q1, q2⟩ := hq
      subst q2
      intro _ _
      refine ⟨by omega, by omega, fun H locs arr ha hH2 hL => ?_⟩
      generalize hret : (ms_Y y).2.2.2.1 = ret at hr hrt
      have hq2 : ∀ t : State, t.heap = H → s.WarmedH t.vm → ms_Qc E r g2 (as.map (ms_up E)).toArray s (.returned none) t := fun t ht _ => ⟨by rw [← q1]; rfl, by rw [ht]; exact hH2⟩
      have hrt2 : ret = none := by
        unfold ms_rt at hrt
        split at hrt <;> first | rfl | cases hrt
      exact W.vret hx hb (by rw [hr, hrt2]) hq2 hL hd hlocks
  · refine ⟨fun pc ls st ho hd hk => ?_, fun pc ls st ho hd hk => ?_, fun pc ls st ho hd hk => ?_, fun pc ls st ho hd hk => ?_, fun pc ls st hd hk => ?_, fun pc ls st i hd hi hk => ?_, fun pc ls st x hd hk => ?_, fun pc ls x ty hd hty hn hq => ?_⟩
    · refine ms_pure' hk fun H locs arr ha hH2 hL kk => ?_
      exact vk_getf hx hb (o3.kept hA0) (hS H locs hH2 hL) hown (by rw [ho]; exact ms_isw_use st_w1 henv rfl) (fun _ h => h) hd kk
    · refine ms_pure' hk fun H locs arr ha hH2 hL kk => ?_
      exact vk_getf hx hb (o2.kept hA0) (hS H locs hH2 hL) hown (by rw [ho]; exact ms_isw_use st_w2 henv rfl) (fun _ h => h) hd kk
    · refine ms_pure' hk fun H locs arr ha hH2 hL kk => ?_
      exact va_gets hx hb (hZ.kept hA0) (hS H locs hH2 hL) hown (by rw [ho]; exact ms_isw_use st_w3 henv rfl) (fun _ h => h) hd kk
    · rcases hF with hF | hF
      · refine ms_pure' (hk .null (Or.inl rfl)) fun H locs arr ha hH2 hL kk => ?_
        exact va_gets hx hb (hF.kept hA0) (hS H locs hH2 hL) hown (by rw [ho]; exact ms_isw_use st_w4 henv rfl) (fun _ h => h) hd kk
      · refine ms_pure' (hk (.retAddr 3) (Or.inr rfl)) fun H locs arr ha hH2 hL kk => ?_
        exact va_gets hx hb (hF.kept hA0) (hS H locs hH2 hL) hown (by rw [ho]; exact ms_isw_use st_w4 henv rfl) (fun _ h => h) hd kk
    · refine ms_pure' hk fun H locs arr ha hH2 hL kk => ?_
      exact va_tlen hx hb (o4.kept hA0) (hS H locs hH2 hL) (v := 101) (by decide) hd kk
    · refine ms_pure' hk fun H locs arr ha hH2 hL kk => ?_
      exact va_tb hx hb (o4.kept hA0) (hS H locs hH2 hL) (i := nI i) (v := .int (ms_wb.getD i 0)) (ms_in hi (by decide)) (by rw [ms_nc (by omega)]; rfl) hd kk
    · refine ms_pure' hk fun H locs arr ha hH2 hL kk => ?_
      exact lv_i2c hx hb hd rfl kk
    · intro _ _
      refine ⟨by omega, by omega, fun H locs arr ha hH2 hL => ?_⟩
      have hq2 : ∀ t : State, t.heap = H → s.WarmedH t.vm → ms_Qc E r g (as.map (ms_up E)).toArray s (.returned (some (.int x))) t := fun t ht _ => ⟨by rw [hq]; rfl, by rw [ht]; exact hH2⟩
      exact W.zret hx hb (by rw [hr, hty]) hn hq2 hL hd hlocks
section St
variable {d i n : Nat} {g : ms_S} {v : Value} {P : ms_K}
def cd_J3_ck : List (List ms_I) := [
  [(0, .iload_n 0, 1, [], 0, 0), (1, .ifCond .lt 8, 3, [9], 0, 0), (4, .iload_n 0, 1, [], 0, 0), (5, .iload_n 1, 1, [], 0, 0), (6, .if_icmp .lt 10, 3, [16], 0, 0)],
  [(16, .iload_n 0, 1, [], 0, 0), (17, .ireturn, 1, [], 0, 0)]]
def cd_J0_ck : List (List ms_I) := [[(0, .iload_n 0, 1, [], 0, 0), (1, .iload_n 1, 1, [], 0, 0), (5, .invokestatic 1059, 3, [277, 0, 3, 1, 580], 0, 0), (8, .pop, 1, [], 0, 0), (9, .return_, 1, [], 0, 0)]]
def cd_J1_ch : List (List ms_I) := [[(0, .iload_n 1, 1, [], 0, 0), (1, .aload_n 0, 1, [], 0, 0), (3, .invokestatic 9, 3, [267, 0, 2, 0, 575], 0, 0), (6, .aload_n 0, 1, [], 0, 0), (7, .iload_n 1, 1, [], 0, 0), (9, .sipush 255, 3, [], 255, 0), (12, .iand, 1, [], 0, 0)]]
def cd_J0_la : List (List ms_I) := [
  [(3, .ifCond .eq 14, 3, [17], 0, 0), (6, .aload_n 0, 1, [], 0, 0), (10, .ifCond .ne 7, 3, [17], 0, 0), (13, .iconst 1, 1, [], 1, 0), (14, .goto 4, 3, [18], 0, 0)],
  [(18, .ireturn, 1, [], 0, 0)]]
def cd_J0_co : List (List ms_I) := [[(3, .ifCond .eq 10, 3, [13], 0, 0), (6, .aload_n 0, 1, [], 0, 0), (10, .goto 4, 3, [14], 0, 0)]]
def cd_J0_ln : List (List ms_I) := [[(0, .aload_n 0, 1, [], 0, 0), (5, .aload_n 0, 1, [], 0, 0), (6, .invokevirtual 335, 3, [265, 1, 0, 1, 558], 0, 0), (9, .ishr, 1, [], 0, 0), (10, .ireturn, 1, [], 0, 0)]]
def cd_J0_ch : List (List ms_I) := [[(0, .aload_n 0, 1, [], 0, 0), (1, .invokevirtual 492, 3, [266, 1, 0, 1, 568], 0, 0), (4, .ifCond .eq 12, 3, [16], 0, 0), (7, .aload_n 0, 1, [], 0, 0), (11, .iload_n 1, 1, [], 0, 0), (12, .invokestatic 495, 3, [268, 0, 2, 1, 572], 0, 0)]]
set_option maxRecDepth 100000 in
theorem st_ok1 : ms_okC (ms_Y 277).1.cls (ms_Y 277).1.name (ms_Y 277).2.2.1 (ms_Y 277).2.1 cd_J3_ck = true := by decide +kernel
set_option maxRecDepth 100000 in
theorem st_ok2 : ms_okC (ms_Y 267).1.cls (ms_Y 267).1.name (ms_Y 267).2.2.1 (ms_Y 267).2.1 cd_J0_ck = true := by decide +kernel
set_option maxRecDepth 100000 in
theorem st_ok3 : ms_okC (ms_Y 268).1.cls (ms_Y 268).1.name (ms_Y 268).2.2.1 (ms_Y 268).2.1 cd_J1_ch = true := by decide +kernel
set_option maxRecDepth 100000 in
theorem st_ok4 : ms_okC (ms_Y 266).1.cls (ms_Y 266).1.name (ms_Y 266).2.2.1 (ms_Y 266).2.1 cd_J0_la = true := by decide +kernel
set_option maxRecDepth 100000 in
theorem st_ok5 : ms_okC (ms_Y 265).1.cls (ms_Y 265).1.name (ms_Y 265).2.2.1 (ms_Y 265).2.1 cd_J0_co = true := by decide +kernel
set_option maxRecDepth 100000 in
theorem st_ok6 : ms_okC (ms_Y 263).1.cls (ms_Y 263).1.name (ms_Y 263).2.2.1 (ms_Y 263).2.1 cd_J0_ln = true := by decide +kernel
set_option maxRecDepth 100000 in
theorem st_ok7 : ms_okC (ms_Y 264).1.cls (ms_Y 264).1.name (ms_Y 264).2.2.1 (ms_Y 264).2.1 cd_J0_ch = true := by decide +kernel
theorem st_ck3 (hv : v = .null ∨ v = .retAddr 3) (hi : i < n) (hn : n < 2 ^ 31) : ms_Cl (d + 1) 277 [.int (nI i), .int (nI n), v] g (some (.int (nI i))) g := by
  have h0 : ¬ nI i < 0 := Int32.not_lt.mpr (ms_nI_0 (by omega))
  have h1 : nI i < nI n := by rw [ms_nlt (by omega) hn]; exact hi
  rcases hv with rfl | rfl
  · refine st_met (rt := 1) (maxL := 3) cd_J3_ck st_ok1 (by decide +kernel) (by decide +kernel) (by decide +kernel) (Nat.le_of_ble_eq_true rfl) rfl (fun hk => absurd hk (by decide +kernel)) (fun P hP hX => ?_)
    refine hP 0 _ _ _ _ rfl (hP 1 _ _ _ _ rfl ?_)
    show if nI i < 0 then P 9 _ [] g else P 4 _ [] g
    rw [if_neg h0]
    refine hP 4 _ _ _ _ rfl (hP 5 _ _ _ _ rfl (hP 6 _ _ _ _ rfl ?_))
    show if nI i < nI n then P 16 _ [] g else P 9 _ [] g
    rw [if_pos h1]
    exact hP 16 _ _ _ _ rfl (hP 17 _ _ _ _ rfl ⟨rfl, rfl⟩)
  · refine st_met (rt := 1) (maxL := 3) cd_J3_ck st_ok1 (by decide +kernel) (by decide +kernel) (by decide +kernel) (Nat.le_of_ble_eq_true rfl) rfl (fun hk => absurd hk (by decide +kernel)) (fun P hP hX => ?_)
    refine hP 0 _ _ _ _ rfl (hP 1 _ _ _ _ rfl ?_)
    show if nI i < 0 then P 9 _ [] g else P 4 _ [] g
    rw [if_neg h0]
    refine hP 4 _ _ _ _ rfl (hP 5 _ _ _ _ rfl (hP 6 _ _ _ _ rfl ?_))
    show if nI i < nI n then P 16 _ [] g else P 9 _ [] g
    rw [if_pos h1]
    exact hP 16 _ _ _ _ rfl (hP 17 _ _ _ _ rfl ⟨rfl, rfl⟩)
theorem st_ck0 (hi : i < n) (hn : n < 2 ^ 31) : ms_Cl (d + 2) 267 [.int (nI i), .int (nI n)] g none g := by
  refine st_met (rt := 0) (maxL := 2) cd_J0_ck st_ok2 (by decide +kernel) (by decide +kernel) (by decide +kernel) (Nat.le_of_ble_eq_true rfl) rfl (fun hk => absurd hk (by decide +kernel)) (fun P hP hX => ?_)
  obtain ⟨_, _, _, x4, _⟩ := hX
  refine hP 0 _ _ _ _ rfl (hP 1 _ _ _ _ rfl ?_)
  refine x4 2 _ _ (by decide +kernel) (by decide +kernel) (fun v hv => hP 5 _ _ _ _ rfl ?_)
  show ∃ (x : Int32) (g' : ms_S), ms_Cl (d + 1) 277 [.int (nI i), .int (nI n), v] g (some (.int x)) g' ∧ P 8 _ [.int x] g'
  exact ⟨_, _, st_ck3 hv hi hn, hP 8 _ _ _ _ rfl (hP 9 _ _ _ _ rfl ⟨rfl, rfl⟩)⟩
theorem st_by : ∀ i, i < 101 → ((ms_wb.getD i 0 &&& 255).toUInt32 % 65536).toInt32 = ms_wb.getD i 0 ∧ narrow .char (.int (ms_wb.getD i 0)) = .int (ms_wb.getD i 0) := by decide +kernel
theorem st_ch1 (hi : i < 101) : ms_Cl (d + 3) 268 [.retAddr 2, .int (nI i)] g (some (.int (ms_wb.getD i 0))) g := by
  refine st_met (rt := 5) (maxL := 2) cd_J1_ch st_ok3 (by decide +kernel) (by decide +kernel) (by decide +kernel) (Nat.le_of_ble_eq_true rfl) rfl (fun hk => absurd hk (by decide +kernel)) (fun P hP hX => ?_)
  obtain ⟨_, _, _, _, x5, x6, x7, x8⟩ := hX
  refine hP 0 _ _ _ _ rfl (hP 1 _ _ _ _ rfl ?_)
  refine x5 2 _ _ (by decide +kernel) (hP 3 _ _ _ _ rfl ?_)
  show ∃ (g' : ms_S), ms_Cl (d + 2) 267 [.int (nI i), .int 101] g none g' ∧ P 6 _ [] g'
  refine ⟨_, st_ck0 (n := 101) hi (by decide), hP 6 _ _ _ _ rfl (hP 7 _ _ _ _ rfl ?_)⟩
  refine x6 8 _ _ i (by decide +kernel) hi (hP 9 _ _ _ _ rfl (hP 12 _ _ _ _ rfl ?_))
  refine x7 13 _ _ _ (by decide +kernel) ?_
  rw [(st_by i hi).1]
  exact x8 14 _ _ .char (by decide +kernel) (by decide +kernel) (st_by i hi).2 rfl
theorem st_la : ms_Cl (d + 1) 266 [.retAddr 1] g (some (.int 1)) g := by
  refine st_met (rt := 4) (maxL := 1) cd_J0_la st_ok4 (by decide +kernel) (by decide +kernel) (by decide +kernel) (Nat.le_of_ble_eq_true rfl) rfl (fun _ => Or.inr ⟨[], rfl, by decide +kernel⟩) (fun P hP hX => ?_)
  obtain ⟨_, x2, x3, _⟩ := hX
  refine x3 0 _ _ (by decide +kernel) (by decide +kernel) (hP 3 _ _ _ _ rfl ?_)
  show if (1 : Int32) = 0 then P 17 (lv_args 0 [Value.retAddr 1]) [] g else P 6 (lv_args 0 [Value.retAddr 1]) [] g
  rw [if_neg (by decide)]
  refine hP 6 _ _ _ _ rfl (x2 7 _ _ (by decide +kernel) (by decide +kernel) (hP 10 _ _ _ _ rfl ?_))
  show if ¬ (0 : Int32) = 0 then P 17 (lv_args 0 [Value.retAddr 1]) [] g else P 13 (lv_args 0 [Value.retAddr 1]) [] g
  rw [if_neg (fun z => z rfl)]
  exact hP 13 _ _ _ _ rfl (hP 14 _ _ _ _ rfl (hP 18 _ _ _ _ rfl ⟨Or.inr rfl, rfl, rfl⟩))
theorem st_co : ms_Cl (d + 1) 265 [.retAddr 1] g (some (.int 0)) g := by
  refine st_met (rt := 5) (maxL := 1) cd_J0_co st_ok5 (by decide +kernel) (by decide +kernel) (by decide +kernel) (Nat.le_of_ble_eq_true rfl) rfl (fun _ => Or.inr ⟨[], rfl, by decide +kernel⟩) (fun P hP hX => ?_)
  obtain ⟨_, x2, x3, _, _, _, _, x8⟩ := hX
  refine x3 0 _ _ (by decide +kernel) (by decide +kernel) (hP 3 _ _ _ _ rfl ?_)
  show if (1 : Int32) = 0 then P 13 (lv_args 0 [Value.retAddr 1]) [] g else P 6 (lv_args 0 [Value.retAddr 1]) [] g
  rw [if_neg (by decide)]
  refine hP 6 _ _ _ _ rfl (x2 7 _ _ (by decide +kernel) (by decide +kernel) (hP 10 _ _ _ _ rfl ?_))
  exact x8 14 _ _ .byte (by decide +kernel) (by decide +kernel) rfl rfl
theorem st_len : ms_Cl (d + 2) 263 [.retAddr 1] g (some (.int 101)) g := by
  refine st_met (rt := 1) (maxL := 1) cd_J0_ln st_ok6 (by decide +kernel) (by decide +kernel) (by decide +kernel) (Nat.le_of_ble_eq_true rfl) rfl (fun _ => Or.inr ⟨[], rfl, by decide +kernel⟩) (fun P hP hX => ?_)
  obtain ⟨x1, _, _, _, x5, _⟩ := hX
  refine hP 0 _ _ _ _ rfl (x1 1 _ _ (by decide +kernel) (by decide +kernel) (x5 4 _ _ (by decide +kernel) (hP 5 _ _ _ _ rfl (hP 6 _ _ _ _ rfl ?_))))
  show ∃ (x : Int32) (g' : ms_S), ms_Cl (d + 1) 265 [.retAddr 1] g (some (.int x)) g' ∧ P 9 _ [.int x, .int 101] g'
  exact ⟨_, _, st_co, hP 9 _ _ _ _ rfl (hP 10 _ _ _ _ rfl ⟨rfl, rfl⟩)⟩
theorem st_ch0 (hi : i < 101) : ms_Cl (d + 4) 264 [.retAddr 1, .int (nI i)] g (some (.int (ms_wb.getD i 0))) g := by
  refine st_met (rt := 5) (maxL := 2) cd_J0_ch st_ok7 (by decide +kernel) (by decide +kernel) (by decide +kernel) (Nat.le_of_ble_eq_true rfl) rfl (fun _ => Or.inr ⟨[.int (nI i)], rfl, by decide +kernel⟩) (fun P hP hX => ?_)
  obtain ⟨x1, _, _, _, _, _, _, x8⟩ := hX
  refine hP 0 _ _ _ _ rfl (hP 1 _ _ _ _ rfl ?_)
  show ∃ (x : Int32) (g' : ms_S), ms_Cl (d + 3) 266 [.retAddr 1] g (some (.int x)) g' ∧ P 4 _ [.int x] g'
  refine ⟨_, _, st_la, hP 4 _ _ _ _ rfl ?_⟩
  show if (1 : Int32) = 0 then P 16 (lv_args 0 [Value.retAddr 1, .int (nI i)]) [] g else P 7 (lv_args 0 [Value.retAddr 1, .int (nI i)]) [] g
  rw [if_neg (by decide)]
  refine hP 7 _ _ _ _ rfl (x1 8 _ _ (by decide +kernel) (by decide +kernel) (hP 11 _ _ _ _ rfl (hP 12 _ _ _ _ rfl ?_)))
  show ∃ (x : Int32) (g' : ms_S), ms_Cl (d + 3) 268 [.retAddr 2, .int (nI i)] g (some (.int x)) g' ∧ P 15 _ [.int x] g'
  exact ⟨_, _, st_ch1 hi, x8 15 _ _ .char (by decide +kernel) (by decide +kernel) (st_by i hi).2 rfl⟩
end St
