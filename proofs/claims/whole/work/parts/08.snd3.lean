/-! SOUNDNESS, calls; the whole machine; a method's contract out of its rows -/
section Snd3
variable {p : Program} {l : Launch} {e : Env} {R : Room} {s : State} {m : MethodId} {args : Array Value} {below : List Frame} {meth : Method} {c : Code} {Qw : State → Prop} {E : ms_E} {cc : ByteArray} {own nm : String} {nL N0 T0 d : Nat}
variable {pc pc' : Nat} {ls ls' : ms_L} {st st' : List Value} {g g' : ms_S}
variable {X : Option (Nat × (Nat → Int32))} {rt : Nat} {Qr : Option Value → ms_S → Prop} {tg : List Nat}
theorem ms_after {r : Option Value} {H : Heap} {locs : List Loc} {cells slots mc ms : Nat} {arr : Array Slot} {rest st0 : List Value} {a : Array Value}
    (hr : va_Run p l e R s m args below meth c H locs cells slots mc ms (F0 m pc arr st0) rest (ms_Qc E r g' a) (ms_fr E)) (hL : ∀ q ∈ locs, E.2.2.1 ≤ q.base)
    (kk : ∀ (H1 : Heap) (locs1 : List Loc), ms_H E g' H1 → (∀ q ∈ locs1, E.2.2.1 ≤ q.base) → W p l e R s m args below meth c H1 locs1 (cells + mc) (slots + ms) Qw (F0 m (pc + 3) arr ((r.map (ms_up E)).toList ++ rest))) : W p l e R s m args below meth c H locs cells slots Qw (F0 m pc arr st0) := by
  intro T hT X
  obtain ⟨v, st₀, t, T', L, h0, X', hL1, e1, e2, ⟨hv, hH⟩, st⟩ := hr T hT X
  cases hv
  obtain ⟨t2, a1, b1⟩ := kk t.heap (locs ++ L) hH (fun q hq => by
    rcases List.mem_append.mp hq with h | h
    · exact hL q h
    · exact hL1 q h) T' e1 X'
  exact ⟨t2, st t2 a1, b1⟩
/-- the words of a callee -/
theorem ms_callee (henv : ms_env E s) {y : Nat} (hy : y < 278) : (∀ w ∈ [Jvm.Cond.code (ms_Y y).1 (ms_Y y).2.1 (ms_Y y).2.2.1 (ms_Y y).2.2.2.1], ∀ (a' : Array Value) (U : State), s.WarmedH U.vm → w.before a' U = true) ∧ (Jvm.Cond.code (ms_Y y).1 (ms_Y y).2.1 (ms_Y y).2.2.1 (ms_Y y).2.2.2.1).before args s = true ∧ (Jvm.Cond.initialized (ms_Y y).1.cls).before args s = true ∧ ((ms_Y y).1.cls ≠ "java/lang/invoke/MethodHandle" ∧ (ms_Y y).1.cls ≠ "java/lang/invoke/VarHandle") ∧ (parseMethodDescriptor (ms_Y y).1.desc).map (fun d => d.parameters.length) = some (ms_Y y).2.2.2.2.2.1 ∧ (ms_Y y).2.2.1 ≤ 42 ∧
    ((ms_Y y).2.2.2.2.1 = 0 → (Jvm.Cond.static (ms_Y y).1).before args s = true) ∧ ((ms_Y y).2.2.2.2.1 = 1 → (Jvm.Cond.instanceMethod (ms_Y y).1).before args s = true ∧ (Jvm.Cond.selects (ms_Y y).1.cls (ms_Y y).1 (ms_Y y).1).before args s = true ∧ ((ms_Y y).2.2.2.2.2.2 = 99 ∨ ((ms_Y y).2.2.2.2.2.2 < 10 ∧ ms_R (ms_Y y).2.2.2.2.2.2 = (ms_Y y).1.cls))) ∧ ((ms_Y y).2.2.2.2.1 = 2 → (Jvm.Cond.instanceMethod (ms_Y y).1).before args s = true ∧ (ms_Y y).1.name = "<init>" ∧ (ms_Y y).2.2.2.1 = none) := by
  have hok := ms_okY_of hy
  have hcode : Jvm.Cond.code (ms_Y y).1 (ms_Y y).2.1 (ms_Y y).2.2.1 (ms_Y y).2.2.2.1 ∈ lw_tbl := by
    have h1 := ms_codes
    have h2 : (ms_Pl.map (fun p => ms_w p.1))[y]? = (ms_Yl.map (fun y => some (Jvm.Cond.code y.1 y.2.1 y.2.2.1 y.2.2.2.1)))[y]? := by rw [h1]
    rw [List.getElem?_map, List.getElem?_map] at h2
    have hYl : ms_Yl.length = 278 := by decide +kernel
    have h3 : ms_Yl[y]? = some (ms_Y y) := by
      unfold ms_Y
      rw [List.getElem?_eq_getElem (by rw [hYl]; exact hy)]
      rfl
    rw [h3] at h2
    cases hp : ms_Pl[y]? with
    | none => rw [hp] at h2; cases h2
    | some q =>
      rw [hp] at h2
      simp only [Option.map_some, Option.some.injEq] at h2
      exact ms_w_mem h2
  unfold ms_okY at hok
  generalize hYe : ms_Y y = Y at hok hcode ⊢
  obtain ⟨nmY, bytes, maxL, ret, kind, n, ci⟩ := Y
  generalize (ms_Pl[y]?).getD (0, 0, 0, 0) = Pq at hok
  obtain ⟨pc0, pi, ps, pin⟩ := Pq
  simp only [Bool.and_eq_true, decide_eq_true_eq] at hok
  obtain ⟨⟨⟨⟨k1, k2⟩, k3⟩, k4⟩, k5⟩ := hok
  have hcs : (Jvm.Cond.code nmY bytes maxL ret).before #[] s = true := henv.2.1 _ hcode rfl
  refine ⟨fun w hw a' U hW => ?_, va_Nw.use rfl hcs, ms_isw_use k1 henv rfl, k2, k3, Nat.le_of_ble_eq_true k4, fun hk => ?_, fun hk => ?_, fun hk => ?_⟩
  · cases List.mem_singleton.mp hw
    exact va_Nw.use rfl (ms_word_warm rfl hW hcs)
  · simp only at hk
    subst hk
    exact ms_isw_use k5 henv rfl
  · simp only at hk
    subst hk
    simp only [Bool.and_eq_true, decide_eq_true_eq] at k5
    exact ⟨ms_isw_use k5.1.1 henv rfl, ms_isw_use k5.1.2 henv rfl, k5.2⟩
  · simp only at hk
    subst hk
    simp only [Bool.and_eq_true, decide_eq_true_eq] at k5
    exact ⟨ms_isw_use k5.1 henv rfl, k5.2⟩
/-- what comes behind a call, by the kind of its answer -/
theorem ms_res_of {rc : Nat} {T : Option Value → ms_S → Prop} {rest : List Value} {K : List Value → ms_S → Prop} (h : ms_res rc T rest K) : ∃ (r : Option Value) (g1 : ms_S), T r g1 ∧ K (r.toList ++ rest) g1 := by
  unfold ms_res at h
  split at h
  · obtain ⟨g1, h1, h2⟩ := h; exact ⟨none, g1, h1, h2⟩
  · obtain ⟨x, g1, h1, h2⟩ := h; exact ⟨_, g1, h1, h2⟩
  · obtain ⟨x, g1, h1, h2⟩ := h; exact ⟨_, g1, h1, h2⟩
  · obtain ⟨r, g1, h1, h2⟩ := h
    cases r with
    | none => exact ⟨_, g1, h1, h2⟩
    | some a => exact ⟨_, g1, h1, h2⟩
theorem ms_opt_app (r : Option Value) (rest : List Value) : ((r.map (ms_up E)).toList ++ rest.map (ms_up E)) = (r.toList ++ rest).map (ms_up E) := by cases r <;> rfl
/-- a call: the callee's contract is used at d, the room is for d + 1 -/
theorem ms_s_call0 (C : ms_Ctx p R s m meth c E cc own nm nL N0 d) {idx y n rc pl : Nat} {A rest : List Value} {r : Option Value} (hd : decode cc pc = .ok (.invokestatic idx, 3)) (hy : y < 278) (hk : (ms_Y y).2.2.2.2.1 = 0) (hn : A.length = (ms_Y y).2.2.2.2.2.1) (hl : ms_link own idx pl (ms_Y y).1 = true) (hcat : ms_cats rest ≤ 8)
    (hcl : ms_Cl d y A g r g') (h : ms_P p l e R s m args below meth c Qw E nL N0 T0 (pc + 3) ls (r.toList ++ rest) g') : ms_P p l e R s m args below meth c Qw E nL N0 T0 pc ls (A.reverse ++ rest) g := by
  obtain ⟨hx, hb, hml, hown, hin, henv, hz, hR1, hR2⟩ := C
  obtain ⟨g1, g2, g3, hM⟩ := hcl
  obtain ⟨w1, w2, w3, w4, w5, w6, w7, -, -⟩ := ms_callee (args := args) henv hy
  intro h1 h2
  obtain ⟨b1, b2, w⟩ := h (Nat.le_trans h1 g1) (Nat.le_trans h2 g2)
  refine ⟨Nat.le_trans g1 b1, Nat.le_trans g2 b2, fun H locs arr ha hH hL => ?_⟩
  have hpre : PreS s H (ms_Pc E A g) (A.map (ms_up E)) := ⟨ms_blind E A g, fun U hU hW => ⟨rfl, ms_env.warm hW henv, by rw [hU]; exact hH⟩⟩
  have hc1 : g.length - N0 + (g'.length - g.length) = g'.length - N0 := by omega
  have hc2 : ms_tot g - T0 + (ms_tot g' - ms_tot g) = ms_tot g' - T0 := by omega
  have hlen : ∀ sig, parseMethodDescriptor (ms_Y y).1.desc = some sig → (ms_Y y).2.2.2.2.2.1 = sig.parameters.length := fun sig hs => by
    rw [hs] at w5; exact (Option.some.inj w5).symm
  have hst : ((A.reverse ++ rest).map (ms_up E)) = (A.map (ms_up E)).reverse ++ rest.map (ms_up E) := by simp
  have hcat2 : 2 * (F0 m pc arr ((A.reverse ++ rest).map (ms_up E))).monitorRoom + ((rest.map (ms_up E)).map fun v => v.category).sum ≤ 8 := by
    have := lv_room (m := m) (pc := pc) (ls := arr) (rest := (A.reverse ++ rest).map (ms_up E)) (st := rest.map (ms_up E)) (by rw [ms_cats_sum]; exact hcat)
    exact this
  have hrun : va_Run p l e R s m args below meth c H locs (g.length - N0) (ms_tot g - T0) (g'.length - g.length) (ms_tot g' - ms_tot g) (F0 m pc arr ((A.reverse ++ rest).map (ms_up E))) (rest.map (ms_up E)) (ms_Qc E r g' (A.map (ms_up E)).toArray) (ms_fr E) := by
    rcases ms_link_of hl henv (args := args) with hlk | ⟨host, hlk⟩
    · exact va_runS (cc := cc) (nL := nL) (Ts := []) (own := own) (index := idx) (n := (ms_Y y).2.2.2.2.2.1) ⟨hx, hb, hml, hown, fun w hw => by cases hw⟩ (hM E l) ⟨⟨rfl, rfl, hR1, by show 8 + ((ms_Y y).2.2.1 + 11) + 61 * d ≤ R.locals; omega, w1, List.mem_singleton.mpr rfl, w2, w3, w4, hlen, hlk⟩, w7 hk⟩ hpre rfl (by rw [List.length_map]; exact hn) (by show arr.size = nL; exact ha.1) hst hcat2 hd ⟨by omega, by omega⟩
    · exact va_runSN (cc := cc) (nL := nL) (Ts := []) (own := own) (host := host) (index := idx) (n := (ms_Y y).2.2.2.2.2.1) ⟨hx, hb, hml, hown, fun w hw => by cases hw⟩ (hM E l) ⟨⟨⟨rfl, rfl, hR1, by show 8 + ((ms_Y y).2.2.1 + 11) + 61 * d ≤ R.locals; omega, w1, List.mem_singleton.mpr rfl⟩, w2, w3, w4, hlen, va_Nw.use rfl hlk⟩, w7 hk, trivial⟩ hpre rfl (by rw [List.length_map]; exact hn) (by show arr.size = nL; exact ha.1) hst hcat2 hd ⟨by omega, by omega⟩
  refine ms_after hrun hL fun H1 locs1 hH1 hL1 => ?_
  rw [hc1, hc2, ms_opt_app]
  exact w H1 locs1 arr ha hH1 hL1
theorem ms_s_call1 (C : ms_Ctx p R s m meth c E cc own nm nL N0 d) {idx y n rc pl b : Nat} {A rest : List Value} {r : Option Value} (hd : decode cc pc = .ok (.invokevirtual idx, 3)) (hy : y < 278) (hk : (ms_Y y).2.2.2.2.1 = 1) (hn : A.length = (ms_Y y).2.2.2.2.2.1) (hl : ms_link own idx pl (ms_Y y).1 = true) (hcat : ms_cats rest ≤ 8)
    (hcl : ms_Cl d y (.ref b :: A) g r g') (h : ms_P p l e R s m args below meth c Qw E nL N0 T0 (pc + 3) ls (r.toList ++ rest) g') : ms_P p l e R s m args below meth c Qw E nL N0 T0 pc ls (A.reverse ++ .ref b :: rest) g := by
  obtain ⟨hx, hb, hml, hown, hin, henv, hz, hR1, hR2⟩ := C
  obtain ⟨g1, g2, g3, hM⟩ := hcl
  obtain ⟨w1, w2, w3, w4, w5, w6, -, w8, -⟩ := ms_callee (args := args) henv hy
  obtain ⟨v1, v2, v3⟩ := w8 hk
  rcases g3 hk with ⟨b', fs, As', e1, e2⟩ | ⟨As', e1, -⟩
  rotate_left
  · cases e1
  cases e1
  intro h1 h2
  obtain ⟨b1, b2, w⟩ := h (Nat.le_trans h1 g1) (Nat.le_trans h2 g2)
  refine ⟨Nat.le_trans g1 b1, Nat.le_trans g2 b2, fun H locs arr ha hH hL => ?_⟩
  have hrecv : ∃ cellB : Cell, H[E.2.2.1 + b]? = some cellB ∧ cellB.vm.isStatics = false ∧ s.vm.findClass (ms_Y y).1.cls = some cellB.cls := by
    rcases v3 with v3 | ⟨v3, v4⟩
    · exfalso
      obtain ⟨r0, hr0, -⟩ := hH.1 b _ (ms_cc_at e2)
      simp only [v3] at hr0
      cases hr0
    · rw [← v4]
      exact va_recv henv.1 hH.1 (ms_cls _ v3).1 (ms_cc_at e2)
  have hpre : PreV s H (ms_Y y).1.cls (E.2.2.1 + b) (ms_Pc E (.ref b :: A) g) (A.map (ms_up E)) := ⟨ms_blind E _ g, hrecv, fun U hU hW => ⟨rfl, ms_env.warm hW henv, by rw [hU]; exact hH⟩⟩
  have hc1 : g.length - N0 + (g'.length - g.length) = g'.length - N0 := by omega
  have hc2 : ms_tot g - T0 + (ms_tot g' - ms_tot g) = ms_tot g' - T0 := by omega
  have hlen : ∀ sig, parseMethodDescriptor (ms_Y y).1.desc = some sig → (ms_Y y).2.2.2.2.2.1 = sig.parameters.length := fun sig hs => by
    rw [hs] at w5; exact (Option.some.inj w5).symm
  have hst : ((A.reverse ++ .ref b :: rest).map (ms_up E)) = (A.map (ms_up E)).reverse ++ .ref (E.2.2.1 + b) :: rest.map (ms_up E) := by simp [ms_up]
  have hcat2 : 2 * (F0 m pc arr ((A.reverse ++ .ref b :: rest).map (ms_up E))).monitorRoom + ((rest.map (ms_up E)).map fun v => v.category).sum ≤ 8 :=
    lv_room (m := m) (pc := pc) (ls := arr) (rest := (A.reverse ++ .ref b :: rest).map (ms_up E)) (st := rest.map (ms_up E)) (by rw [ms_cats_sum]; exact hcat)
  have hrun : va_Run p l e R s m args below meth c H locs (g.length - N0) (ms_tot g - T0) (g'.length - g.length) (ms_tot g' - ms_tot g) (F0 m pc arr ((A.reverse ++ .ref b :: rest).map (ms_up E))) (rest.map (ms_up E)) (ms_Qc E r g' (Value.ref (E.2.2.1 + b) :: A.map (ms_up E)).toArray) (ms_fr E) := by
    rcases ms_link_of hl henv (args := args) with hlk | ⟨host, hlk⟩
    · exact va_runV (cc := cc) (nL := nL) (Ts := []) (own := own) (index := idx) (n := (ms_Y y).2.2.2.2.2.1) ⟨hx, hb, hml, hown, fun w hw => by cases hw⟩ (hM E l) ⟨⟨rfl, rfl, hR1, by show 8 + ((ms_Y y).2.2.1 + 11) + 61 * d ≤ R.locals; omega, w1, List.mem_singleton.mpr rfl, w2, w3, w4, hlen, hlk⟩, v1, v2⟩ hpre rfl (by rw [List.length_map]; exact hn) (by show arr.size = nL; exact ha.1) hst hcat2 hd ⟨by omega, by omega⟩
    · exact va_runVN (cc := cc) (nL := nL) (Ts := []) (own := own) (host := host) (index := idx) (n := (ms_Y y).2.2.2.2.2.1) ⟨hx, hb, hml, hown, fun w hw => by cases hw⟩ (hM E l) ⟨⟨⟨rfl, rfl, hR1, by show 8 + ((ms_Y y).2.2.1 + 11) + 61 * d ≤ R.locals; omega, w1, List.mem_singleton.mpr rfl⟩, w2, w3, w4, hlen, va_Nw.use rfl hlk⟩, v1, v2⟩ hpre rfl (by rw [List.length_map]; exact hn) (by show arr.size = nL; exact ha.1) hst hcat2 hd ⟨by omega, by omega⟩
  refine ms_after hrun hL fun H1 locs1 hH1 hL1 => ?_
  rw [hc1, hc2, ms_opt_app]
  exact w H1 locs1 arr ha hH1 hL1
theorem ms_s_call1S (C : ms_Ctx p R s m meth c E cc own nm nL N0 d) {idx y n rc pl : Nat} {A rest : List Value} {r : Option Value} (hd : decode cc pc = .ok (.invokevirtual idx, 3)) (hy : y < 278) (hk : (ms_Y y).2.2.2.2.1 = 1) (hn : A.length = (ms_Y y).2.2.2.2.2.1) (hl : ms_link own idx pl (ms_Y y).1 = true) (hcat : ms_cats rest ≤ 8)
    (hcl : ms_Cl d y (.retAddr 1 :: A) g r g') (h : ms_P p l e R s m args below meth c Qw E nL N0 T0 (pc + 3) ls (r.toList ++ rest) g') : ms_P p l e R s m args below meth c Qw E nL N0 T0 pc ls (A.reverse ++ .retAddr 1 :: rest) g := by
  obtain ⟨hx, hb, hml, hown, hin, henv, hz, hR1, hR2⟩ := C
  obtain ⟨g1, g2, g3, hM⟩ := hcl
  obtain ⟨w1, w2, w3, w4, w5, w6, -, w8, -⟩ := ms_callee (args := args) henv hy
  obtain ⟨v1, v2, v3⟩ := w8 hk
  have hcls : (ms_Y y).1.cls = "java/lang/String" := by
    rcases g3 hk with ⟨b', fs, As', e1, e2⟩ | ⟨As', -, e2⟩
    · cases e1
    · exact e2
  intro h1 h2
  obtain ⟨b1, b2, w⟩ := h (Nat.le_trans h1 g1) (Nat.le_trans h2 g2)
  refine ⟨Nat.le_trans g1 b1, Nat.le_trans g2 b2, fun H locs arr ha hH hL => ?_⟩
  have hrecv : ∃ cellB : Cell, H[E.1.2 99 1]? = some cellB ∧ cellB.vm.isStatics = false ∧ s.vm.findClass (ms_Y y).1.cls = some cellB.cls := by
    rw [hcls]
    exact ms_str_recv henv hH
  have hpre : PreV s H (ms_Y y).1.cls (E.1.2 99 1) (ms_Pc E (.retAddr 1 :: A) g) (A.map (ms_up E)) := ⟨ms_blind E _ g, hrecv, fun U hU hW => ⟨rfl, ms_env.warm hW henv, by rw [hU]; exact hH⟩⟩
  have hc1 : g.length - N0 + (g'.length - g.length) = g'.length - N0 := by omega
  have hc2 : ms_tot g - T0 + (ms_tot g' - ms_tot g) = ms_tot g' - T0 := by omega
  have hlen : ∀ sig, parseMethodDescriptor (ms_Y y).1.desc = some sig → (ms_Y y).2.2.2.2.2.1 = sig.parameters.length := fun sig hs => by
    rw [hs] at w5; exact (Option.some.inj w5).symm
  have hst : ((A.reverse ++ .retAddr 1 :: rest).map (ms_up E)) = (A.map (ms_up E)).reverse ++ .ref (E.1.2 99 1) :: rest.map (ms_up E) := by simp [ms_up_str]
  have hcat2 : 2 * (F0 m pc arr ((A.reverse ++ .retAddr 1 :: rest).map (ms_up E))).monitorRoom + ((rest.map (ms_up E)).map fun v => v.category).sum ≤ 8 :=
    lv_room (m := m) (pc := pc) (ls := arr) (rest := (A.reverse ++ .retAddr 1 :: rest).map (ms_up E)) (st := rest.map (ms_up E)) (by rw [ms_cats_sum]; exact hcat)
  have hrun : va_Run p l e R s m args below meth c H locs (g.length - N0) (ms_tot g - T0) (g'.length - g.length) (ms_tot g' - ms_tot g) (F0 m pc arr ((A.reverse ++ .retAddr 1 :: rest).map (ms_up E))) (rest.map (ms_up E)) (ms_Qc E r g' (Value.ref (E.1.2 99 1) :: A.map (ms_up E)).toArray) (ms_fr E) := by
    rcases ms_link_of hl henv (args := args) with hlk | ⟨host, hlk⟩
    · exact va_runV (cc := cc) (nL := nL) (Ts := []) (own := own) (index := idx) (n := (ms_Y y).2.2.2.2.2.1) ⟨hx, hb, hml, hown, fun w hw => by cases hw⟩ (hM E l) ⟨⟨rfl, rfl, hR1, by show 8 + ((ms_Y y).2.2.1 + 11) + 61 * d ≤ R.locals; omega, w1, List.mem_singleton.mpr rfl, w2, w3, w4, hlen, hlk⟩, v1, v2⟩ hpre rfl (by rw [List.length_map]; exact hn) (by show arr.size = nL; exact ha.1) hst hcat2 hd ⟨by omega, by omega⟩
    · exact va_runVN (cc := cc) (nL := nL) (Ts := []) (own := own) (host := host) (index := idx) (n := (ms_Y y).2.2.2.2.2.1) ⟨hx, hb, hml, hown, fun w hw => by cases hw⟩ (hM E l) ⟨⟨⟨rfl, rfl, hR1, by show 8 + ((ms_Y y).2.2.1 + 11) + 61 * d ≤ R.locals; omega, w1, List.mem_singleton.mpr rfl⟩, w2, w3, w4, hlen, va_Nw.use rfl hlk⟩, v1, v2⟩ hpre rfl (by rw [List.length_map]; exact hn) (by show arr.size = nL; exact ha.1) hst hcat2 hd ⟨by omega, by omega⟩
  refine ms_after hrun hL fun H1 locs1 hH1 hL1 => ?_
  rw [hc1, hc2, ms_opt_app]
  exact w H1 locs1 arr ha hH1 hL1
theorem ms_s_call2 (C : ms_Ctx p R s m meth c E cc own nm nL N0 d) {idx y n rc pl b : Nat} {A rest : List Value} {r : Option Value} (hd : decode cc pc = .ok (.invokespecial idx, 3)) (hy : y < 278) (hk : (ms_Y y).2.2.2.2.1 = 2) (hn : A.length = (ms_Y y).2.2.2.2.2.1) (hl : ms_link own idx pl (ms_Y y).1 = true) (hcat : ms_cats rest ≤ 8)
    (hcl : ms_Cl d y (.ref b :: A) g r g') (h : ms_P p l e R s m args below meth c Qw E nL N0 T0 (pc + 3) ls (r.toList ++ rest) g') : ms_P p l e R s m args below meth c Qw E nL N0 T0 pc ls (A.reverse ++ .ref b :: rest) g := by
  obtain ⟨hx, hb, hml, hown, hin, henv, hz, hR1, hR2⟩ := C
  obtain ⟨g1, g2, g3, hM⟩ := hcl
  obtain ⟨w1, w2, w3, w4, w5, w6, -, -, w9⟩ := ms_callee (args := args) henv hy
  obtain ⟨v1, v2, v3⟩ := w9 hk
  intro h1 h2
  obtain ⟨b1, b2, w⟩ := h (Nat.le_trans h1 g1) (Nat.le_trans h2 g2)
  refine ⟨Nat.le_trans g1 b1, Nat.le_trans g2 b2, fun H locs arr ha hH hL => ?_⟩
  have hpre : PreS s H (ms_Pc E (.ref b :: A) g) (.ref (E.2.2.1 + b) :: A.map (ms_up E)) := ⟨ms_blind E _ g, fun U hU hW => ⟨rfl, ms_env.warm hW henv, by rw [hU]; exact hH⟩⟩
  have hc1 : g.length - N0 + (g'.length - g.length) = g'.length - N0 := by omega
  have hc2 : ms_tot g - T0 + (ms_tot g' - ms_tot g) = ms_tot g' - T0 := by omega
  have hlen : ∀ sig, parseMethodDescriptor (ms_Y y).1.desc = some sig → (ms_Y y).2.2.2.2.2.1 = sig.parameters.length := fun sig hs => by
    rw [hs] at w5; exact (Option.some.inj w5).symm
  have hst : ((A.reverse ++ .ref b :: rest).map (ms_up E)) = (A.map (ms_up E)).reverse ++ .ref (E.2.2.1 + b) :: rest.map (ms_up E) := by simp [ms_up]
  have hcat2 : 2 * (F0 m pc arr ((A.reverse ++ .ref b :: rest).map (ms_up E))).monitorRoom + ((rest.map (ms_up E)).map fun v => v.category).sum ≤ 8 :=
    lv_room (m := m) (pc := pc) (ls := arr) (rest := (A.reverse ++ .ref b :: rest).map (ms_up E)) (st := rest.map (ms_up E)) (by rw [ms_cats_sum]; exact hcat)
  have hrun : va_Run p l e R s m args below meth c H locs (g.length - N0) (ms_tot g - T0) (g'.length - g.length) (ms_tot g' - ms_tot g) (F0 m pc arr ((A.reverse ++ .ref b :: rest).map (ms_up E))) (rest.map (ms_up E)) (ms_Qc E r g' (Value.ref (E.2.2.1 + b) :: A.map (ms_up E)).toArray) (ms_fr E) := by
    have hM2 := hM E l
    generalize hYe : ms_Y y = Y at *
    obtain ⟨nmY, bytes, maxL, ret, kind, nY, ci⟩ := Y
    simp only at *
    subst v3
    rcases ms_link_of hl henv (args := args) with hlk | ⟨host, hlk⟩
    · exact va_runI (cc := cc) (nL := nL) (Ts := []) (own := own) (index := idx) (n := nY) ⟨hx, hb, hml, hown, fun w hw => by cases hw⟩ hM2 ⟨⟨rfl, rfl, hR1, by show 8 + (maxL + 11) + 61 * d ≤ R.locals; omega, w1, List.mem_singleton.mpr rfl, w2, w3, w4, hlen, hlk⟩, v2, v1⟩ hpre rfl (by rw [List.length_map]; exact hn) (by show arr.size = nL; exact ha.1) hst hcat2 hd ⟨by omega, by omega⟩
    · exact va_runIN (cc := cc) (nL := nL) (Ts := []) (own := own) (host := host) (index := idx) (n := nY) ⟨hx, hb, hml, hown, fun w hw => by cases hw⟩ hM2 ⟨⟨⟨rfl, rfl, hR1, by show 8 + (maxL + 11) + 61 * d ≤ R.locals; omega, w1, List.mem_singleton.mpr rfl⟩, w2, w3, w4, hlen, va_Nw.use rfl hlk⟩, v2, v1⟩ hpre rfl (by rw [List.length_map]; exact hn) (by show arr.size = nL; exact ha.1) hst hcat2 hd ⟨by omega, by omega⟩
  refine ms_after hrun hL fun H1 locs1 hH1 hL1 => ?_
  rw [hc1, hc2, ms_opt_app]
  exact w H1 locs1 arr ha hH1 hL1
end Snd3
