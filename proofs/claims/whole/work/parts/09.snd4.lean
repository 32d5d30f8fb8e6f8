/-! SOUNDNESS: the JDK's own, switches; all instructions -/
section Snd4
variable {p : Program} {l : Launch} {e : Env} {R : Room} {s : State} {m : MethodId} {args : Array Value} {below : List Frame} {meth : Method} {c : Code} {Qw : State → Prop} {E : ms_E} {cc : ByteArray} {own nm : String} {nL N0 T0 d : Nat}
variable {pc pc' : Nat} {ls ls' : ms_L} {st st' : List Value} {g g' : ms_S}
variable {X : Option (Nat × (Nat → Int32))} {rt : Nat} {Qr : Option Value → ms_S → Prop} {tg : List Nat}
theorem ms_catR {rest : List Value} (h : Nat.ble (ms_cats rest) 8 = true) (arr : Array Slot) (st0 : List Value) : ((rest.map (ms_up E)).map fun v => v.category).sum ≤ 8 ∧ 2 * (F0 m pc arr st0).monitorRoom + ((rest.map (ms_up E)).map fun v => v.category).sum ≤ 8 := by
  have h1 : ((rest.map (ms_up E)).map fun v => v.category).sum ≤ 8 := by rw [ms_cats_sum]; exact Nat.le_of_ble_eq_true h
  exact ⟨h1, lv_room (m := m) (pc := pc) (ls := arr) (rest := st0) h1⟩
theorem ms_fitI (cA : ClassId) (n : Nat) (f : Nat → Int32) (i : Nat) (v : Value) (h : (vp_cell cA (n, .inl f)).slots[i]? = some v) : fits .int v = true := by
  rw [vp_cell_i] at h
  rcases Nat.lt_or_ge i n with hi | hi
  · rw [arrV_read _ _ hi] at h
    cases h; rfl
  · rw [Array.getElem?_eq_none (by rw [arrV_size]; exact hi)] at h
    cases h
theorem ms_s_objInit (C : ms_Ctx p R s m meth c E cc own nm nL N0 d) {idx pl pi pq : Nat} (hd : decode cc pc = .ok (.invokespecial idx, 3)) (h1 : ms_isw pl (.methodLink own idx objectInit) = true) (h2 : ms_isw pi (.instanceMethod objectInit) = true) (h3 : ms_isw pq (.code objectInit ⟨#[0xb1]⟩ 1 none) = true)
    (h : ms_n0 (fun st' g' => ms_P p l e R s m args below meth c Qw E nL N0 T0 (pc + 3) ls st' g') st g) : ms_P p l e R s m args below meth c Qw E nL N0 T0 pc ls st g := by
  obtain ⟨hx, hb, hml, hown, hin, henv, hz, hR1, hR2⟩ := C
  dsimp only [ms_n0] at h
  split at h
  · rename_i a rest
    cases hc : Nat.ble (ms_cats rest) 8 with
    | false => rw [hc] at h; exact h.elim
    | true =>
      rw [hc] at h
      refine ms_pure' h fun H locs arr ha hH hL kk => ?_
      have hcr := ms_catR (E := E) (m := m) (pc := pc) hc arr ((.ref a :: rest).map (ms_up E))
      exact W.objInit hx hb hown (ms_isw_use h1 henv rfl) (ms_isw_use h2 henv rfl) (ms_isw_use h3 henv rfl) rfl (by show arr.size = c.maxLocals; rw [hml]; exact ha.1) (a := E.2.2.1 + a) (rest := rest.map (ms_up E)) rfl hd (by omega) (by have := hcr.2; omega) kk
  · exact h.elim
theorem ms_s_copy (C : ms_Ctx p R s m meth c E cc own nm nL N0 d) {idx pl pn ps pi : Nat} (hd : decode cc pc = .ok (.invokestatic idx, 3)) (h1 : ms_isw pl (.methodLink own idx arraycopyName) = true) (h2 : ms_isw pn (.native arraycopyName) = true) (h3 : ms_isw ps (.static arraycopyName) = true) (h4 : ms_isw pi (.initialized "java/lang/System") = true)
    (h : ms_n1 (fun st' g' => ms_P p l e R s m args below meth c Qw E nL N0 T0 (pc + 3) ls st' g') st g) : ms_P p l e R s m args below meth c Qw E nL N0 T0 pc ls st g := by
  obtain ⟨hx, hb, hml, hown, hin, henv, hz, hR1, hR2⟩ := C
  dsimp only [ms_n1] at h
  split at h
  · rename_i n dp b sp a rest
    cases hc : Nat.ble (ms_cats rest) 8 with
    | false => rw [hc] at h; exact h.elim
    | true =>
      rw [hc] at h
      simp only [cond_true] at h
      split at h
      · rename_i na f nb f2 hf1 hf2
        obtain ⟨k1, k2, k3, k4, k5, hP⟩ := h
        refine ms_wrote hz henv.2.2.1 ?_ ?_ hP fun H locs arr ha hH hL kk => ?_
        · simp
        · exact ms_tot_set (ms_arr_some hf2) rfl
        have hcr := ms_catR (E := E) (m := m) (pc := pc) hc arr (rest.map (ms_up E))
        have hN : nativeFrameWords "java/lang/System" "arraycopy" 5 ≤ 40 := by decide
        refine va_copyi (D := E.1) (cl := vwCl) (ws := ms_cc E g) (tys := ms_tys E) (own := own) hx hb (by rw [hml]; exact ha.1.symm) hown (ms_isw_use h1 henv rfl) (ms_isw_use h2 henv rfl) (ms_isw_use h3 henv rfl) (ms_isw_use h4 henv rfl) henv.1 hH.1 ms_D (ms_HS henv.2.2.1 hH hL) a b 0 0 (ty := .int) (ms_cc_at (ms_arr_some hf1)) (ms_cc_at (ms_arr_some hf2)) rfl rfl rfl k1 k2 k3 k4 k5 (fun _ _ => rfl) (by omega) (by have := hcr.1; omega) hd fun H1 locs1 hP1 _ hS1 => kk H1 locs1 ?_ hS1
        rw [ms_cc_set]
        exact hP1
      · exact h.elim
  · exact h.elim
theorem ms_s_clone (C : ms_Ctx p R s m meth c E cc own nm nL N0 d) {idx pl psm pn pi ps pq : Nat} (hd : decode cc pc = .ok (.invokevirtual idx, 3)) (h1 : ms_isw pl (.methodLink own idx ⟨"[I", "clone", "()Ljava/lang/Object;"⟩) = true) (h2 : ms_isw psm (.sameMethod "[I" "java/lang/Object" "clone" "()Ljava/lang/Object;") = true) (h3 : ms_isw pn (.native ⟨"java/lang/Object", "clone", "()Ljava/lang/Object;"⟩) = true) (h4 : ms_isw pi (.instanceMethod ⟨"java/lang/Object", "clone", "()Ljava/lang/Object;"⟩) = true) (h5 : ms_isw ps (.selects "[I" ⟨"[I", "clone", "()Ljava/lang/Object;"⟩ ⟨"java/lang/Object", "clone", "()Ljava/lang/Object;"⟩) = true) (h6 : ms_isw pq (.castable "[I" "java/lang/Cloneable") = true)
    (h : ms_n2 (fun st' g' => ms_P p l e R s m args below meth c Qw E nL N0 T0 (pc + 3) ls st' g') st g) : ms_P p l e R s m args below meth c Qw E nL N0 T0 pc ls st g := by
  obtain ⟨hx, hb, hml, hown, hin, henv, hz, hR1, hR2⟩ := C
  have hA : ∀ q, E.2.2.2.1.size ≤ q → ms_fr E q := fun q hq => by rw [henv.2.2.1] at hq; exact hq
  dsimp only [ms_n2] at h
  split at h
  · rename_i a rest
    cases hc : Nat.ble (ms_cats rest) 8 with
    | false => rw [hc] at h; exact h.elim
    | true =>
      rw [hc] at h
      simp only [cond_true] at h
      split at h
      · rename_i na f hf1
        refine ms_made (cl := .inl (0, na, .inl f)) (sz := na) hz henv.2.2.1 rfl h fun H locs arr hc1 hs1 ha hH hL kk => ?_
        have hcr := ms_catR (E := E) (m := m) (pc := pc) hc arr (rest.map (ms_up E))
        have hnm : s.vm.findClass "[I" = some (E.2.1 0) := by
          have := ms_findA (henv.1.2 0 _ rfl).2
          exact this
        exact va_clone (D := E.1) (cl := vwCl) (ws := ms_cc E g) (tys := ms_tys E) (own := own) (ad := "[I") (A := ms_fr E) (H0 := E.2.2.2.1) (x := (na, .inl f)) (ty := .int) hx hb (by rw [hml]; exact ha.1.symm) hown (ms_isw_use h1 henv rfl) (ms_isw_use h2 henv rfl) (ms_isw_use h3 henv rfl) (ms_isw_use h4 henv rfl) (ms_isw_use h5 henv rfl) (ms_isw_ok h6 henv) henv.1 hH.1 ms_D (ms_HS henv.2.2.1 hH hL) hA a 0 (ms_cc_at (ms_arr_some hf1)) rfl hnm (ms_fitI _ _ _) (by omega) (by have := hcr.1; omega) hc1 hs1 hd fun q H1 _ hP1 hD1 hS1 => kk q H1 hP1 hD1 hS1
      · exact h.elim
  · exact h.elim
theorem ms_s_max (C : ms_Ctx p R s m meth c E cc own nm nL N0 d) {idx pl ps pi pq : Nat} (hd : decode cc pc = .ok (.invokestatic idx, 3)) (h0 : ms_isw pi (.initialized "java/lang/Math") = true) (h1 : ms_isw pl (.methodLink own idx Lib.Math.max.name) = true) (h2 : ms_isw ps (.static Lib.Math.max.name) = true) (h3 : ms_isw pq (.code Lib.Math.max.name Lib.Math.max.code 2 (some .int)) = true)
    (h : ms_n3 (fun st' g' => ms_P p l e R s m args below meth c Qw E nL N0 T0 (pc + 3) ls st' g') st g) : ms_P p l e R s m args below meth c Qw E nL N0 T0 pc ls st g := by
  obtain ⟨hx, hb, hml, hown, hin, henv, hz, hR1, hR2⟩ := C
  dsimp only [ms_n3] at h
  split at h
  · rename_i y x rest
    cases hc : Nat.ble (ms_cats rest) 8 with
    | false => rw [hc] at h; exact h.elim
    | true =>
      rw [hc] at h
      intro q1 q2
      obtain ⟨b1, b2, w⟩ := h q1 q2
      refine ⟨b1, b2, fun H locs arr ha hH hL => ?_⟩
      have hcr := ms_catR (E := E) (m := m) (pc := pc) hc arr (rest.map (ms_up E))
      exact va_mmax (own := own) hx hb (by rw [hml]; exact ha.1.symm) hown (ms_isw_use h1 henv rfl) (ms_isw_use h2 henv rfl) (ms_isw_use h0 henv rfl) (ms_isw_use h3 henv rfl) (by omega) (by have := hcr.1; omega) (by omega) (by omega) hd (w H locs arr ha hH hL)
  · exact h.elim
theorem ms_s_min (C : ms_Ctx p R s m meth c E cc own nm nL N0 d) {idx pl ps pi pq : Nat} (hd : decode cc pc = .ok (.invokestatic idx, 3)) (h0 : ms_isw pi (.initialized "java/lang/Math") = true) (h1 : ms_isw pl (.methodLink own idx Lib.Math.min.name) = true) (h2 : ms_isw ps (.static Lib.Math.min.name) = true) (h3 : ms_isw pq (.code Lib.Math.min.name Lib.Math.min.code 2 (some .int)) = true)
    (h : ms_n4 (fun st' g' => ms_P p l e R s m args below meth c Qw E nL N0 T0 (pc + 3) ls st' g') st g) : ms_P p l e R s m args below meth c Qw E nL N0 T0 pc ls st g := by
  obtain ⟨hx, hb, hml, hown, hin, henv, hz, hR1, hR2⟩ := C
  dsimp only [ms_n4] at h
  split at h
  · rename_i y x rest
    cases hc : Nat.ble (ms_cats rest) 8 with
    | false => rw [hc] at h; exact h.elim
    | true =>
      rw [hc] at h
      intro q1 q2
      obtain ⟨b1, b2, w⟩ := h q1 q2
      refine ⟨b1, b2, fun H locs arr ha hH hL => ?_⟩
      have hcr := ms_catR (E := E) (m := m) (pc := pc) hc arr (rest.map (ms_up E))
      exact va_mmin (own := own) hx hb (by rw [hml]; exact ha.1.symm) hown (ms_isw_use h1 henv rfl) (ms_isw_use h2 henv rfl) (ms_isw_use h0 henv rfl) (ms_isw_use h3 henv rfl) (by omega) (by have := hcr.1; omega) (by omega) (by omega) hd (w H locs arr ha hH hL)
  · exact h.elim
theorem ms_s_abs (C : ms_Ctx p R s m meth c E cc own nm nL N0 d) {idx pl ps pi pq : Nat} (hd : decode cc pc = .ok (.invokestatic idx, 3)) (h0 : ms_isw pi (.initialized "java/lang/Math") = true) (h1 : ms_isw pl (.methodLink own idx Lib.Math.abs.name) = true) (h2 : ms_isw ps (.static Lib.Math.abs.name) = true) (h3 : ms_isw pq (.code Lib.Math.abs.name Lib.Math.abs.code 1 (some .int)) = true)
    (h : ms_n5 (fun st' g' => ms_P p l e R s m args below meth c Qw E nL N0 T0 (pc + 3) ls st' g') st g) : ms_P p l e R s m args below meth c Qw E nL N0 T0 pc ls st g := by
  obtain ⟨hx, hb, hml, hown, hin, henv, hz, hR1, hR2⟩ := C
  dsimp only [ms_n5] at h
  split at h
  · rename_i x rest
    cases hc : Nat.ble (ms_cats rest) 8 with
    | false => rw [hc] at h; exact h.elim
    | true =>
      rw [hc] at h
      intro q1 q2
      obtain ⟨b1, b2, w⟩ := h q1 q2
      refine ⟨b1, b2, fun H locs arr ha hH hL => ?_⟩
      have hcr := ms_catR (E := E) (m := m) (pc := pc) hc arr (rest.map (ms_up E))
      exact va_mabs (own := own) hx hb (by rw [hml]; exact ha.1.symm) hown (ms_isw_use h1 henv rfl) (ms_isw_use h2 henv rfl) (ms_isw_use h0 henv rfl) (ms_isw_use h3 henv rfl) (by omega) (by have := hcr.1; omega) (by omega) (by omega) hd (w H locs arr ha hH hL)
  · exact h.elim
theorem ms_s_maxl (C : ms_Ctx p R s m meth c E cc own nm nL N0 d) {idx pl ps pi pq : Nat} (hd : decode cc pc = .ok (.invokestatic idx, 3)) (h0 : ms_isw pi (.initialized "java/lang/Math") = true) (h1 : ms_isw pl (.methodLink own idx Lib.MathLoose.max_long.x) = true) (h2 : ms_isw ps (.static Lib.MathLoose.max_long.x) = true) (h3 : ms_isw pq (.code Lib.MathLoose.max_long.x Lib.MathLoose.max_long.code 4 (some .long)) = true)
    (h : ms_n6 (fun st' g' => ms_P p l e R s m args below meth c Qw E nL N0 T0 (pc + 3) ls st' g') st g) : ms_P p l e R s m args below meth c Qw E nL N0 T0 pc ls st g := by
  obtain ⟨hx, hb, hml, hown, hin, henv, hz, hR1, hR2⟩ := C
  dsimp only [ms_n6] at h
  split at h
  · rename_i y x rest
    cases hc : Nat.ble (ms_cats rest) 8 with
    | false => rw [hc] at h; exact h.elim
    | true =>
      rw [hc] at h
      intro q1 q2
      obtain ⟨b1, b2, w⟩ := h q1 q2
      refine ⟨b1, b2, fun H locs arr ha hH hL => ?_⟩
      have hcr := ms_catR (E := E) (m := m) (pc := pc) hc arr (rest.map (ms_up E))
      exact va_mmax_long (own := own) hx hb (by rw [hml]; exact ha.1.symm) hown (ms_isw_use h1 henv rfl) (ms_isw_use h2 henv rfl) (ms_isw_use h0 henv rfl) (ms_isw_use h3 henv rfl) (by omega) (by have := hcr.1; omega) (by omega) (by omega) hd (w H locs arr ha hH hL)
  · exact h.elim
theorem ms_s_minl (C : ms_Ctx p R s m meth c E cc own nm nL N0 d) {idx pl ps pi pq : Nat} (hd : decode cc pc = .ok (.invokestatic idx, 3)) (h0 : ms_isw pi (.initialized "java/lang/Math") = true) (h1 : ms_isw pl (.methodLink own idx Lib.MathLoose.min_long.x) = true) (h2 : ms_isw ps (.static Lib.MathLoose.min_long.x) = true) (h3 : ms_isw pq (.code Lib.MathLoose.min_long.x Lib.MathLoose.min_long.code 4 (some .long)) = true)
    (h : ms_n7 (fun st' g' => ms_P p l e R s m args below meth c Qw E nL N0 T0 (pc + 3) ls st' g') st g) : ms_P p l e R s m args below meth c Qw E nL N0 T0 pc ls st g := by
  obtain ⟨hx, hb, hml, hown, hin, henv, hz, hR1, hR2⟩ := C
  dsimp only [ms_n7] at h
  split at h
  · rename_i y x rest
    cases hc : Nat.ble (ms_cats rest) 8 with
    | false => rw [hc] at h; exact h.elim
    | true =>
      rw [hc] at h
      intro q1 q2
      obtain ⟨b1, b2, w⟩ := h q1 q2
      refine ⟨b1, b2, fun H locs arr ha hH hL => ?_⟩
      have hcr := ms_catR (E := E) (m := m) (pc := pc) hc arr (rest.map (ms_up E))
      exact va_mmin_long (own := own) hx hb (by rw [hml]; exact ha.1.symm) hown (ms_isw_use h1 henv rfl) (ms_isw_use h2 henv rfl) (ms_isw_use h0 henv rfl) (ms_isw_use h3 henv rfl) (by omega) (by have := hcr.1; omega) (by omega) (by omega) hd (w H locs arr ha hH hL)
  · exact h.elim
theorem ms_s_invoke (C : ms_Ctx p R s m meth c E cc own nm nL N0 d) {idx kind : Nat} {i : Instr} (hk : (kind = 0 ∧ i = .invokestatic idx) ∨ (kind = 1 ∧ i = .invokevirtual idx) ∨ (kind = 2 ∧ i = .invokespecial idx)) (hd : decode cc pc = .ok (i, 3)) (ho : ms_okI own kind idx tg = true)
    (h : ms_invoke (ms_Cl d) (ms_P p l e R s m args below meth c Qw E nL N0 T0) (pc + 3) tg ls st g) : ms_P p l e R s m args below meth c Qw E nL N0 T0 pc ls st g := by
  unfold ms_okI at ho
  split at ho
  · rename_i y k n rc pl
    simp only [Bool.and_eq_true] at ho
    obtain ⟨⟨⟨⟨⟨o1, o2⟩, o3⟩, o4⟩, o5⟩, o6⟩ := ho
    have hy : y < 278 := (Nat.le_of_ble_eq_true o1 : y + 1 ≤ 278)
    have e2 := Nat.eq_of_beq_eq_true o2
    have e3 := Nat.eq_of_beq_eq_true o3
    have e4 := Nat.eq_of_beq_eq_true o4
    dsimp only [ms_invoke] at h
    have hb1 : Nat.ble 1000 y = false := by
      cases hq : Nat.ble 1000 y with
      | false => rfl
      | true => have := Nat.le_of_ble_eq_true hq; omega
    rw [hb1] at h
    simp only [cond_false] at h
    unfold ms_call at h
    simp only at h
    split at h
    · exact h.elim
    · rename_i A rest hA
      obtain ⟨pre, t1, t2, t3⟩ := ms_tk_ok hA
      have hAr : pre = A.reverse := by rw [t2]; simp
      have hAn : A.length = n := by rw [t2]; simp [t3]
      subst hAr
      subst t1
      split at h
      · cases hc : Nat.ble (ms_cats rest) 8 with
        | false => rw [hc] at h; exact h.elim
        | true =>
          rw [hc] at h
          obtain ⟨r, g1, q1, q2⟩ := ms_res_of h
          rcases hk with ⟨k1, k2⟩ | ⟨k1, k2⟩ | ⟨k1, k2⟩
          · subst k2
            exact ms_s_call0 (n := 0) (rc := 0) C hd hy e3.symm (by rw [hAn, e4]) o6 (Nat.le_of_ble_eq_true hc) q1 q2
          · omega
          · omega
      · rename_i hne
        split at h
        · rename_i b rest
          cases hc : Nat.ble (ms_cats rest) 8 with
          | false => rw [hc] at h; exact h.elim
          | true =>
            rw [hc] at h
            obtain ⟨r, g1, q1, q2⟩ := ms_res_of h
            rcases hk with ⟨k1, k2⟩ | ⟨k1, k2⟩ | ⟨k1, k2⟩
            · exact absurd (e2.trans k1) hne
            · subst k2
              exact ms_s_call1 (n := 0) (rc := 0) C hd hy (by omega) (by rw [hAn, e4]) o6 (Nat.le_of_ble_eq_true hc) q1 q2
            · subst k2
              exact ms_s_call2 (n := 0) (rc := 0) C hd hy (by omega) (by rw [hAn, e4]) o6 (Nat.le_of_ble_eq_true hc) q1 q2
        · rename_i rest
          cases hc : (Nat.beq k 1 && Nat.ble (ms_cats rest) 8) with
          | false => rw [hc] at h; exact h.elim
          | true =>
            rw [hc] at h
            rw [Bool.and_eq_true] at hc
            have hk1 := Nat.eq_of_beq_eq_true hc.1
            obtain ⟨r, g1, q1, q2⟩ := ms_res_of h
            rcases hk with ⟨k1, k2⟩ | ⟨k1, k2⟩ | ⟨k1, k2⟩
            · exact absurd (e2.trans k1) hne
            · subst k2
              exact ms_s_call1S (n := 0) (rc := 0) C hd hy (by omega) (by rw [hAn, e4]) o6 (Nat.le_of_ble_eq_true hc.2) q1 q2
            · omega
        · exact h.elim
  · simp only [Bool.and_eq_true] at ho
    obtain ⟨⟨⟨⟨o1, o2⟩, o3⟩, o4⟩, o5⟩ := ho
    have e1 := Nat.eq_of_beq_eq_true o1
    have e2 := Nat.eq_of_beq_eq_true o2
    subst e1
    rcases hk with ⟨k1, k2⟩ | ⟨k1, k2⟩ | ⟨k1, k2⟩
    · omega
    · omega
    · subst k2
      exact ms_s_objInit C hd o3 o4 o5 h
  · simp only [Bool.and_eq_true] at ho
    obtain ⟨⟨⟨⟨⟨o1, o2⟩, o3⟩, o4⟩, o5⟩, o6⟩ := ho
    have e1 := Nat.eq_of_beq_eq_true o1
    have e2 := Nat.eq_of_beq_eq_true o2
    subst e1
    rcases hk with ⟨k1, k2⟩ | ⟨k1, k2⟩ | ⟨k1, k2⟩
    · subst k2
      exact ms_s_copy C hd o3 o4 o5 o6 h
    · omega
    · omega
  · simp only [Bool.and_eq_true] at ho
    obtain ⟨⟨⟨⟨⟨⟨⟨o1, o2⟩, o3⟩, o4⟩, o5⟩, o6⟩, o7⟩, o8⟩ := ho
    have e1 := Nat.eq_of_beq_eq_true o1
    have e2 := Nat.eq_of_beq_eq_true o2
    subst e1
    rcases hk with ⟨k1, k2⟩ | ⟨k1, k2⟩ | ⟨k1, k2⟩
    · omega
    · subst k2
      exact ms_s_clone C hd o3 o4 o5 o6 o7 o8 h
    · omega
  · simp only [Bool.and_eq_true] at ho
    obtain ⟨⟨o1, o2⟩, o3⟩ := ho
    have e1 := Nat.eq_of_beq_eq_true o1
    rcases hk with ⟨k1, k2⟩ | ⟨k1, k2⟩ | ⟨k1, k2⟩
    · subst k2
      split at o3
      · simp only [Bool.and_eq_true] at o3; exact ms_s_max C hd o2 o3.1.1 o3.1.2 o3.2 h
      · simp only [Bool.and_eq_true] at o3; exact ms_s_min C hd o2 o3.1.1 o3.1.2 o3.2 h
      · simp only [Bool.and_eq_true] at o3; exact ms_s_abs C hd o2 o3.1.1 o3.1.2 o3.2 h
      · simp only [Bool.and_eq_true] at o3; exact ms_s_maxl C hd o2 o3.1.1 o3.1.2 o3.2 h
      · simp only [Bool.and_eq_true] at o3; exact ms_s_minl C hd o2 o3.1.1 o3.1.2 o3.2 h
      · cases o3
    · omega
    · omega
  · cases ho
theorem ms_sw_of {x : Int32} {K : Nat → Prop} {dt : Nat} : ∀ {L : List (Int32 × Nat)}, ms_sw x K dt L → (∃ (j : Nat) (q : Int32 × Nat), L[j]? = some q ∧ x = q.1 ∧ K q.2) ∨ ((∀ q ∈ L, ¬ x = q.1) ∧ K dt) := by
  intro L
  induction L with
  | nil => intro h; exact Or.inr ⟨fun q hq => (by cases hq), h⟩
  | cons a r ih =>
    obtain ⟨v, t⟩ := a
    intro h
    refine ms_split h (fun hc h => Or.inl ⟨0, (v, t), rfl, hc, h⟩) (fun hc h => ?_)
    rcases ih h with ⟨j, q, h1, h2⟩ | ⟨h1, h2⟩
    · exact Or.inl ⟨j + 1, q, h1, h2⟩
    · refine Or.inr ⟨fun q hq => ?_, h2⟩
      rcases List.mem_cons.mp hq with e | e
      · subst e; exact hc
      · exact h1 q e
theorem ms_s_tsw (hx : p.tables.exec = Jvm.exec) (hb : c.code = cc) {dt lo hi : Int} {offs : Array Int} {len : Nat} {c0 : Int32} {cl : Int64} (hd : decode cc pc = .ok (.tableswitch dt lo hi offs, len)) (ho : ms_okE own nm nL (pc, .tableswitch dt lo hi offs, len, tg, c0, cl) = true)
    (h : ms_swi (ms_P p l e R s m args below meth c Qw E nL N0 T0) tg lo ls st g) : ms_P p l e R s m args below meth c Qw E nL N0 T0 pc ls st g := by
  dsimp only [ms_okE] at ho
  split at ho
  · rename_i t r
    simp only [Bool.and_eq_true, decide_eq_true_eq] at ho
    obtain ⟨⟨o1, o2, o3, o4, o5⟩, o6⟩ := ho
    dsimp only [ms_swi] at h
    have hlen : offs.size = r.length := by
      have := congrArg List.length o5
      simpa using this
    split at h
    · rename_i x s0
      rcases ms_sw_of h with ⟨j, q, h1, h2, h3⟩ | ⟨h1, h2⟩
      · rw [List.getElem?_map] at h1
        cases hz : ((List.range r.length).zip r)[j]? with
        | none => rw [hz] at h1; cases h1
        | some z =>
          rw [hz] at h1
          cases h1
          rw [List.getElem?_zip_eq_some] at hz
          obtain ⟨hz1, hz2⟩ := hz
          have hj : j < r.length := (List.getElem?_eq_some_iff.mp hz2).1
          rw [List.getElem?_range hj] at hz1
          have hj2 : z.1 = j := (Option.some.inj hz1).symm
          have hto : (Int32.ofInt (lo + (j : Nat))).toInt = lo + (j : Nat) := by
            have := List.all_eq_true.mp o6 j (List.mem_range.mpr (by omega))
            simpa using this
          simp only [hj2] at h2
          have hxi : x.toInt = lo + (j : Nat) := by rw [h2]; exact hto
          have hoff : ∃ off, offs[j]? = some off ∧ (pc : Int) + off = (z.2 : Int) := by
            have h5 : (offs.toList.map (fun o => (pc : Int) + o))[j]? = (r.map (fun q => Int.ofNat q))[j]? := by rw [o5]
            rw [List.getElem?_map, List.getElem?_map, hz2, Array.getElem?_toList] at h5
            cases hof : offs[j]? with
            | none => rw [hof] at h5; cases h5
            | some off => rw [hof] at h5; exact ⟨off, rfl, Option.some.inj h5⟩
          obtain ⟨off, f1, f2⟩ := hoff
          refine ms_pure' h3 fun H locs arr ha hH hL kk => lv_tableIn hx hb hd (by omega) (by omega) (off := off) ?_ f2 kk
          rw [hxi, show (lo + (j : Nat) - lo).toNat = j by omega]
          exact f1
      · refine ms_pure' h2 fun H locs arr ha hH hL kk => lv_tableOut hx hb hd ?_ o1 kk
        by_cases hlt : x.toInt < lo
        · exact Or.inl hlt
        · right
          rcases Int.lt_or_le hi x.toInt with hh | hh
          · exact hh
          · exfalso
            have hj : (x.toInt - lo).toNat < r.length := by omega
            have hmem : (Int32.ofInt (lo + ((x.toInt - lo).toNat : Nat)), r[(x.toInt - lo).toNat]'hj) ∈ (List.map (fun q => (Int32.ofInt (lo + (q.1 : Nat)), q.2)) ((List.range r.length).zip r)) := by
              refine List.mem_map.mpr ⟨((x.toInt - lo).toNat, r[(x.toInt - lo).toNat]'hj), ?_, rfl⟩
              refine List.mem_of_getElem? (i := (x.toInt - lo).toNat) ?_
              rw [List.getElem?_zip_eq_some]
              exact ⟨List.getElem?_range hj, List.getElem?_eq_getElem hj⟩
            refine h1 _ hmem ?_
            have hto : (Int32.ofInt (lo + ((x.toInt - lo).toNat : Nat))).toInt = lo + ((x.toInt - lo).toNat : Nat) := by
              have := List.all_eq_true.mp o6 (x.toInt - lo).toNat (List.mem_range.mpr (by omega))
              simpa using this
            apply Int32.toInt_inj.mp
            rw [hto]; omega
    · exact h.elim
  · cases ho
theorem ms_lsw {ps : List (Int × Int)} {x : Int32} {K : Nat → Prop} {dt : Nat} {di : Int} {pc : Nat} : ∀ {r : List Nat}, (ps.map (fun o => (pc : Int) + o.2) = r.map (fun q => Int.ofNat q)) → (∀ q ∈ ps, (Int32.ofInt q.1).toInt = q.1) → (pc : Int) + di = (dt : Int) → ms_sw x K dt ((ps.map fun q => Int32.ofInt q.1).zip r) → ∃ (off : Int) (t : Nat), Op.lookupswitch.offset ps di x.toInt = off ∧ (pc : Int) + off = (t : Int) ∧ K t := by
  induction ps with
  | nil => intro r h1 h2 h3 h4; exact ⟨di, dt, rfl, h3, by simpa [ms_sw] using h4⟩
  | cons a ps ih =>
    obtain ⟨v, o⟩ := a
    intro r h1 h2 h3 h4
    cases r with
    | nil => simp at h1
    | cons t r =>
      simp only [List.map_cons, List.cons.injEq] at h1
      have hv := h2 (v, o) List.mem_cons_self
      refine ms_split h4 (fun hc h => ?_) (fun hc h => ?_)
      · refine ⟨o, t, ?_, h1.1, h⟩
        have e : x.toInt = v := by rw [hc]; exact hv
        simp [Op.lookupswitch.offset, e]
      · obtain ⟨off, t', q1, q2, q3⟩ := ih h1.2 (fun q hq => h2 q (List.mem_cons_of_mem _ hq)) h3 h
        refine ⟨off, t', ?_, q2, q3⟩
        rw [lv_osw hc hv]
        exact q1
theorem ms_s_lsw (hx : p.tables.exec = Jvm.exec) (hb : c.code = cc) {dt : Int} {ps : Array (Int × Int)} {len : Nat} {c0 : Int32} {cl : Int64} (hd : decode cc pc = .ok (.lookupswitch dt ps, len)) (ho : ms_okE own nm nL (pc, .lookupswitch dt ps, len, tg, c0, cl) = true)
    (h : ms_swl (ms_P p l e R s m args below meth c Qw E nL N0 T0) tg (ps.toList.map fun q => Int32.ofInt q.1) ls st g) : ms_P p l e R s m args below meth c Qw E nL N0 T0 pc ls st g := by
  dsimp only [ms_okE] at ho
  split at ho
  · rename_i t r
    simp only [Bool.and_eq_true, decide_eq_true_eq] at ho
    obtain ⟨⟨⟨o1, o2⟩, o3⟩, o4⟩ := ho
    dsimp only [ms_swl] at h
    split at h
    · rename_i x s0
      obtain ⟨off, t', q1, q2, q3⟩ := ms_lsw o2 (fun q hq => by have := List.all_eq_true.mp o4 q hq; simpa using this) o1 h
      exact ms_pure' q3 fun H locs arr ha hH hL kk => lv_lookup hx hb hd o3 q1 q2 kk
    · exact h.elim
  · cases ho
end Snd4
