/-! SOUNDNESS, the store -/
theorem ms_fld_some {g : ms_S} {a ci k : Nat} {v : Value} (h : ms_fld g a ci k = some v) : ∃ fs : List Value, g[a]? = some (.inr (ci, fs)) ∧ fs[k]? = some v := by
  unfold ms_fld at h
  split at h
  · rename_i cj fs hg
    cases hc : Nat.beq ci cj with
    | true =>
      rw [hc] at h
      have := Nat.eq_of_beq_eq_true hc
      subst this
      exact ⟨fs, hg, h⟩
    | false => rw [hc] at h; cases h
  · cases h
theorem ms_fldI_some {g : ms_S} {a ci k : Nat} {x : Int32} (h : ms_fldI g a ci k = some x) : ms_fld g a ci k = some (.int x) := by
  unfold ms_fldI at h
  split at h
  · rename_i y hy; cases h; exact hy
  · cases h
theorem ms_fldL_some {g : ms_S} {a ci k : Nat} {x : Int64} (h : ms_fldL g a ci k = some x) : ms_fld g a ci k = some (.long x) := by
  unfold ms_fldL at h
  split at h
  · rename_i y hy; cases h; exact hy
  · cases h
theorem ms_fldR_some {g : ms_S} {a ci k : Nat} {x : Nat} (h : ms_fldR g a ci k = some x) : ms_fld g a ci k = some (.ref x) := by
  unfold ms_fldR at h
  split at h
  · rename_i y hy; cases h; exact hy
  · cases h
theorem ms_arr_some {g : ms_S} {a : Nat} {x : Nat × Nat × ms_A} (h : ms_arr g a = some x) : g[a]? = some (.inl x) := by
  unfold ms_arr at h
  split at h
  · rename_i y hy; cases h; exact hy
  · cases h
theorem ms_cc_at {E : ms_E} {g : ms_S} {a : Nat} {cl : ms_C} (h : g[a]? = some cl) : (ms_cc E g)[a]? = some (E.2.2.1 + a, ms_uc E cl) := by
  rw [ms_cc_get, h]; rfl
theorem ms_nar1 {x : Int32} (h : x = 0 ∨ x = 1) : vp_nar .boolean x = x := by rcases h with rfl | rfl <;> rfl
theorem ms_findA {U : State} {cA : ClassId} {ty : FieldType} (h : va_RA U cA ty) : U.vm.findClass ("[" ++ ty.toString) = some cA := by
  cases ty with
  | object C => obtain ⟨_, _, _, _, _, h⟩ := h; exact h
  | _ => exact h
section Snd2
variable {p : Program} {l : Launch} {e : Env} {R : Room} {s : State} {m : MethodId} {args : Array Value} {below : List Frame} {meth : Method} {c : Code} {Qw : State → Prop} {E : ms_E} {cc : ByteArray} {own nm : String} {nL N0 T0 d : Nat}
variable {pc pc' : Nat} {ls ls' : ms_L} {st st' : List Value} {g g' : ms_S}
variable {X : Option (Nat × (Nat → Int32))} {rt : Nat} {Qr : Option Value → ms_S → Prop} {tg : List Nat}
theorem ms_s_getf (C : ms_Ctx p R s m meth c E cc own nm nL N0 d) {idx : Nat} (hd : decode cc pc = .ok (.getfield idx, 3)) (ho : ms_okF own nm false idx tg = true) (h : ms_getf (ms_P p l e R s m args below meth c Qw E nL N0 T0) tg (pc + 3) ls st g) : ms_P p l e R s m args below meth c Qw E nL N0 T0 pc ls st g := by
  obtain ⟨hx, hb, hml, hown, hin, henv, hz, -, -⟩ := C
  unfold ms_okF at ho
  split at ho
  · rename_i ci k pl
    simp only [Bool.and_eq_true] at ho
    obtain ⟨⟨⟨h1, h2⟩, h3⟩, -⟩ := ho
    have hci : ci < 10 := (Nat.le_of_ble_eq_true h1 : ci + 1 ≤ 10)
    have hk : k < ms_N ci := (Nat.le_of_ble_eq_true h2 : k + 1 ≤ ms_N ci)
    obtain ⟨c1, c2, c3, c4⟩ := ms_cls ci hci
    dsimp only [ms_getf] at h
    split at h
    · rename_i a r
      have fin : ∀ v : Value, ms_fld g a ci k = some v → ms_P p l e R s m args below meth c Qw E nL N0 T0 (pc + 3) ls (v :: r) g → ms_P p l e R s m args below meth c Qw E nL N0 T0 pc ls (.ref a :: r) g := by
        intro v hv hP
        obtain ⟨fs, e1, e2⟩ := ms_fld_some hv
        refine ms_pure' hP fun H locs arr ha hH hL kk => ?_
        exact va_get (D := E.1) (cl := vwCl) (ws := ms_cc E g) (tys := ms_tys E) (C := ms_R ci) (T := ms_T ci) (N := ms_N ci) (ci := ci) (own := own) hx hb (ms_inX c2 henv) (fun _ h => h) hown henv.1 hH.1 a (ms_cc_at e1) c1 k hk (ms_isw_use h3 henv rfl) (fun _ h => h) (v := ms_up E v) (by rw [List.getElem?_map, e2]; rfl) hd kk
      split at h
      · split at h
        · rename_i x hx1; exact fin _ (ms_fldI_some hx1) h
        · exact h.elim
      · split at h
        · rename_i x hx1; exact fin _ (ms_fldL_some hx1) h
        · exact h.elim
      · split at h
        · rename_i x hx1; exact fin _ (ms_fldR_some hx1) h
        · exact h.elim
      · exact h.elim
    · exact h.elim
  · cases ho
theorem ms_s_putf (C : ms_Ctx p R s m meth c E cc own nm nL N0 d) {idx : Nat} (hd : decode cc pc = .ok (.putfield idx, 3)) (ho : ms_okF own nm true idx tg = true) (h : ms_putf (ms_P p l e R s m args below meth c Qw E nL N0 T0) tg (pc + 3) ls st g) : ms_P p l e R s m args below meth c Qw E nL N0 T0 pc ls st g := by
  obtain ⟨hx, hb, hml, hown, hin, henv, hz, -, -⟩ := C
  unfold ms_okF at ho
  split at ho
  · rename_i ci k pl
    simp only [Bool.and_eq_true, Bool.not_true, Bool.false_or, decide_eq_true_eq] at ho
    obtain ⟨⟨⟨h1, h2⟩, h3⟩, h4⟩ := ho
    have hci : ci < 10 := (Nat.le_of_ble_eq_true h1 : ci + 1 ≤ 10)
    have hk : k < ms_N ci := (Nat.le_of_ble_eq_true h2 : k + 1 ≤ ms_N ci)
    obtain ⟨c1, c2, c3, c4⟩ := ms_cls ci hci
    dsimp only [ms_putf] at h
    split at h
    · rename_i v a r
      split at h
      · rename_i v0 hv0
        obtain ⟨hok, hP⟩ := h
        obtain ⟨fs, e1, e2⟩ := ms_fld_some hv0
        have hl : k < fs.length := (List.getElem?_eq_some_iff.mp e2).1
        obtain ⟨n1, n2⟩ := ms_okv_ok (E := E) hok
        have hput : ms_put g a k v = g.set a (.inr (ci, fs.set k v)) := by unfold ms_put; rw [e1]
        rw [hput] at hP
        refine ms_wrote hz henv.2.2.1 (by simp) (ms_tot_set e1 (by simp [ms_sz])) hP fun H locs arr ha hH hL kk => ?_
        have kk' : ∀ (H1 : Heap) (locs1 : List Loc), va_P E.1 vwCl ((ms_cc E g).set a (E.2.2.1 + a, .inr (ci, (fs.map (ms_up E)).set k (ms_up E v)))) H1 → va_D (ms_fr E) ((ms_cc E g).set a (E.2.2.1 + a, .inr (ci, (fs.map (ms_up E)).set k (ms_up E v)))) → va_S (ms_fr E) E.2.2.2.1 H1 locs1 → W p l e R s m args below meth c H1 locs1 (g.length - N0) (ms_tot g - T0) Qw (F0 m (pc + 3) arr (r.map (ms_up E))) := by
          intro H1 locs1 hP1 _ hS1
          refine kk H1 locs1 ?_ hS1
          rw [ms_cc_set]
          show va_P E.1 vwCl ((ms_cc E g).set a (E.2.2.1 + a, .inr (ci, (fs.set k v).map (ms_up E)))) H1
          rw [List.map_set]
          exact hP1
        rcases h4 with h4 | ⟨h4, h5, h6⟩
        · exact va_put (D := E.1) (cl := vwCl) (ws := ms_cc E g) (tys := ms_tys E) (C := ms_R ci) (T := ms_T ci) (N := ms_N ci) (ci := ci) (own := own) hx hb (ms_inX c2 henv) (fun _ h => h) (ms_ty ci) c3 c4 hown henv.1 hH.1 ms_D (ms_HS henv.2.2.1 hH hL) a (ms_cc_at e1) c1 k hk (ms_isw_use h3 henv rfl) (fun _ h => h) h4 (c3 k hk) n1 n2 (by simpa using hl) hd kk'
        · exact va_putF (D := E.1) (cl := vwCl) (ws := ms_cc E g) (tys := ms_tys E) (C := ms_R ci) (T := ms_T ci) (N := ms_N ci) (ci := ci) (own := own) hx hb (ms_inX c2 henv) (fun _ h => h) (ms_ty ci) c3 c4 hown henv.1 hH.1 ms_D (ms_HS henv.2.2.1 hH hL) a (ms_cc_at e1) c1 k hk (ms_isw_use h3 henv rfl) (fun _ h => h) h4 (hin h5) h6 (c3 k hk) n1 n2 (by simpa using hl) hd kk'
      · exact h.elim
    · exact h.elim
  · cases ho
theorem ms_s_iald (C : ms_Ctx p R s m meth c E cc own nm nL N0 d) (hX : X = none ∨ X = some (E.2.2.2.2.2.1, E.2.2.2.2.2.2)) (hd : decode cc pc = .ok (.iaload, 1)) (h : ms_ldi X (ms_P p l e R s m args below meth c Qw E nL N0 T0) 0 (pc + 1) ls st g) : ms_P p l e R s m args below meth c Qw E nL N0 T0 pc ls st g := by
  obtain ⟨hx, hb, hml, hown, hin, henv, hz, -, -⟩ := C
  unfold ms_ldi at h
  split at h
  · split at h
    · rename_i t n f hf
      cases ht : Nat.beq t 0 with
      | true =>
        rw [ht] at h
        have := Nat.eq_of_beq_eq_true ht
        subst this
        exact ms_pure' h.2 fun H locs arr ha hH hL kk => va_iald (D := E.1) (cl := vwCl) (ws := ms_cc E g) (tys := ms_tys E) hx hb henv.1 hH.1 _ 0 (ms_cc_at (ms_arr_some hf)) rfl h.1 hd kk
      | false => rw [ht] at h; exact h.elim
    · exact h.elim
  · split at h
    · rename_i x
      rcases hX with hX | hX
      · cases hX
      · cases hX
        exact ms_pure' h.2 fun H locs arr ha hH hL kk => va_sld (A := ms_fr E) hx hb henv.2.2.2.1 (by rw [henv.2.2.1]; exact henv.2.2.2.2.1) (Nat.not_le.mpr henv.2.2.2.2.1) (ms_HS henv.2.2.1 hH hL) h.1 hd kk
    · exact h.elim
  · exact h.elim
theorem ms_s_bald (C : ms_Ctx p R s m meth c E cc own nm nL N0 d) (hd : decode cc pc = .ok (.baload, 1)) (h : ms_ldi X (ms_P p l e R s m args below meth c Qw E nL N0 T0) 2 (pc + 1) ls st g) : ms_P p l e R s m args below meth c Qw E nL N0 T0 pc ls st g := by
  obtain ⟨hx, hb, hml, hown, hin, henv, hz, -, -⟩ := C
  unfold ms_ldi at h
  split at h
  · split at h
    · rename_i t n f hf
      cases ht : Nat.beq t 2 with
      | true =>
        rw [ht] at h
        have := Nat.eq_of_beq_eq_true ht
        subst this
        exact ms_pure' h.2 fun H locs arr ha hH hL kk => va_zald (D := E.1) (cl := vwCl) (ws := ms_cc E g) (tys := ms_tys E) hx hb henv.1 hH.1 _ 2 (ms_cc_at (ms_arr_some hf)) rfl h.1 hd kk
      | false => rw [ht] at h; exact h.elim
    · exact h.elim
  · split at h
    · rename_i h0; cases h0
    · exact h.elim
  · exact h.elim
theorem ms_s_lald (C : ms_Ctx p R s m meth c E cc own nm nL N0 d) (hd : decode cc pc = .ok (.laload, 1)) (h : ms_ldl (ms_P p l e R s m args below meth c Qw E nL N0 T0) (pc + 1) ls st g) : ms_P p l e R s m args below meth c Qw E nL N0 T0 pc ls st g := by
  obtain ⟨hx, hb, hml, hown, hin, henv, hz, -, -⟩ := C
  unfold ms_ldl at h
  split at h
  · split at h
    · rename_i n f hf
      exact ms_pure' h.2 fun H locs arr ha hH hL kk => va_lald (D := E.1) (cl := vwCl) (ws := ms_cc E g) (tys := ms_tys E) hx hb henv.1 hH.1 _ 1 (ms_cc_at (ms_arr_some hf)) rfl h.1 hd kk
    · exact h.elim
  · exact h.elim
theorem ms_s_aald (C : ms_Ctx p R s m meth c E cc own nm nL N0 d) (hd : decode cc pc = .ok (.aaload, 1)) (h : ms_lda (ms_P p l e R s m args below meth c Qw E nL N0 T0) (pc + 1) ls st g) : ms_P p l e R s m args below meth c Qw E nL N0 T0 pc ls st g := by
  obtain ⟨hx, hb, hml, hown, hin, henv, hz, -, -⟩ := C
  unfold ms_lda at h
  split at h
  · rename_i i a r
    split at h
    · rename_i t n f hf
      cases ht : (Nat.ble 3 t && Nat.ble t 4) with
      | true =>
        rw [ht] at h
        simp only [cond_true] at h
        simp only [Bool.and_eq_true] at ht
        have h3 : 3 ≤ t := Nat.le_of_ble_eq_true ht.1
        have h4 : t ≤ 4 := Nat.le_of_ble_eq_true ht.2
        have key : ∀ (cA : ClassId) (Cn : String), (ms_tys E)[t]? = some (E.2.1 t, .object Cn) → ∀ v : Value, ms_up E v = va_rf ((f i.toNatClampNeg).map fun x => E.2.2.1 + x) → ms_P p l e R s m args below meth c Qw E nL N0 T0 (pc + 1) ls (v :: r) g → ms_P p l e R s m args below meth c Qw E nL N0 T0 pc ls (.int i :: .ref a :: r) g := by
          intro cA Cn ht0 v hv hP
          refine ms_pure' hP fun H locs arr ha hH hL kk => va_aldq (D := E.1) (cl := vwCl) (ws := ms_cc E g) (tys := ms_tys E) (C := Cn) (f := fun j => (f j).map fun x => E.2.2.1 + x) hx hb henv.1 hH.1 a t (ms_cc_at (ms_arr_some hf)) ht0 h.1 hd ?_
          rw [← hv]
          exact kk
        have hv2 := h.2
        have ht0 : ∃ Cn, (ms_tys E)[t]? = some (E.2.1 t, .object Cn) := by
          rcases (show t = 3 ∨ t = 4 by omega) with rfl | rfl
          · exact ⟨_, rfl⟩
          · exact ⟨_, rfl⟩
        obtain ⟨Cn, ht0⟩ := ht0
        split at hv2
        · rename_i x hx1
          exact key 0 Cn ht0 (.ref x) (by rw [hx1]; rfl) hv2
        · rename_i hx1
          exact key 0 Cn ht0 .null (by rw [hx1]; rfl) hv2
      | false => rw [ht] at h; exact h.elim
    · exact h.elim
  · exact h.elim
theorem ms_s_iast (C : ms_Ctx p R s m meth c E cc own nm nL N0 d) (hd : decode cc pc = .ok (.iastore, 1)) (h : ms_sti (ms_P p l e R s m args below meth c Qw E nL N0 T0) (pc + 1) ls st g) : ms_P p l e R s m args below meth c Qw E nL N0 T0 pc ls st g := by
  obtain ⟨hx, hb, hml, hown, hin, henv, hz, -, -⟩ := C
  unfold ms_sti at h
  split at h
  · split at h
    · rename_i n f hf
      refine ms_wrote hz henv.2.2.1 ?_ ?_ h.2 fun H locs arr ha hH hL kk => ?_
      · simp
      · exact ms_tot_set (ms_arr_some hf) rfl
      refine va_iast (D := E.1) (cl := vwCl) (ws := ms_cc E g) (tys := ms_tys E) hx hb henv.1 hH.1 ms_D (ms_HS henv.2.2.1 hH hL) _ 0 (ms_cc_at (ms_arr_some hf)) rfl h.1 hd fun H1 locs1 hP1 _ hS1 => kk H1 locs1 ?_ hS1
      rw [ms_cc_set]
      exact hP1
    · exact h.elim
  · exact h.elim
theorem ms_s_bast (C : ms_Ctx p R s m meth c E cc own nm nL N0 d) (hd : decode cc pc = .ok (.bastore, 1)) (h : ms_stb (ms_P p l e R s m args below meth c Qw E nL N0 T0) (pc + 1) ls st g) : ms_P p l e R s m args below meth c Qw E nL N0 T0 pc ls st g := by
  obtain ⟨hx, hb, hml, hown, hin, henv, hz, -, -⟩ := C
  unfold ms_stb at h
  split at h
  · split at h
    · rename_i n f hf
      refine ms_wrote hz henv.2.2.1 ?_ ?_ h.2.2 fun H locs arr ha hH hL kk => ?_
      · simp
      · exact ms_tot_set (ms_arr_some hf) rfl
      refine va_zast (D := E.1) (cl := vwCl) (ws := ms_cc E g) (tys := ms_tys E) hx hb henv.1 hH.1 ms_D (ms_HS henv.2.2.1 hH hL) _ 2 (ms_cc_at (ms_arr_some hf)) rfl h.1 hd fun H1 locs1 hP1 _ hS1 => kk H1 locs1 ?_ hS1
      rw [ms_cc_set]
      rw [ms_nar1 h.2.1] at hP1
      exact hP1
    · exact h.elim
  · exact h.elim
theorem ms_s_last (C : ms_Ctx p R s m meth c E cc own nm nL N0 d) (hd : decode cc pc = .ok (.lastore, 1)) (h : ms_stl (ms_P p l e R s m args below meth c Qw E nL N0 T0) (pc + 1) ls st g) : ms_P p l e R s m args below meth c Qw E nL N0 T0 pc ls st g := by
  obtain ⟨hx, hb, hml, hown, hin, henv, hz, -, -⟩ := C
  unfold ms_stl at h
  split at h
  · split at h
    · rename_i n f hf
      refine ms_wrote hz henv.2.2.1 ?_ ?_ h.2 fun H locs arr ha hH hL kk => ?_
      · simp
      · exact ms_tot_set (ms_arr_some hf) rfl
      refine va_last (D := E.1) (cl := vwCl) (ws := ms_cc E g) (tys := ms_tys E) hx hb henv.1 hH.1 ms_D (ms_HS henv.2.2.1 hH hL) _ 1 (ms_cc_at (ms_arr_some hf)) rfl h.1 hd fun H1 locs1 hP1 _ hS1 => kk H1 locs1 ?_ hS1
      rw [ms_cc_set]
      exact hP1
    · exact h.elim
  · exact h.elim
theorem ms_up_va {α : Type} (f : Nat → Option Nat) (k : Nat) (v : Option Nat) (b : Nat) : (fun j => ((va_up f k v) j).map fun x => b + x) = va_up (fun j => (f j).map fun x => b + x) k (v.map fun x => b + x) := by
  funext j
  unfold va_up
  split <;> rfl
theorem ms_s_aast (C : ms_Ctx p R s m meth c E cc own nm nL N0 d) (hd : decode cc pc = .ok (.aastore, 1)) (h : ms_sta (ms_P p l e R s m args below meth c Qw E nL N0 T0) (pc + 1) ls st g) : ms_P p l e R s m args below meth c Qw E nL N0 T0 pc ls st g := by
  obtain ⟨hx, hb, hml, hown, hin, henv, hz, -, -⟩ := C
  unfold ms_sta at h
  split at h
  · rename_i x i a r
    split at h
    · rename_i t n f cx fx hf hgx
      cases ht : (Nat.beq t 3 && Nat.beq cx 7 || Nat.beq t 4 && Nat.beq cx 0) with
      | true =>
        rw [ht] at h
        simp only [cond_true] at h
        refine ms_wrote hz henv.2.2.1 ?_ ?_ h.2 fun H locs arr ha hH hL kk => ?_
        · simp
        · exact ms_tot_set (ms_arr_some hf) rfl
        simp only [Bool.or_eq_true, Bool.and_eq_true] at ht
        have key : ∀ (r0 : vw_C), (ms_tys E)[t]? = some (E.2.1 t, .object r0.1) → vwCl[cx]? = some r0 → W p l e R s m args below meth c H locs (g.length - N0) (ms_tot g - T0) Qw (F0 m pc arr ((.ref x :: .int i :: .ref a :: r).map (ms_up E))) := by
          intro r0 h1 h2
          refine va_astq (D := E.1) (cl := vwCl) (ws := ms_cc E g) (tys := ms_tys E) (f := fun j => (f j).map fun x => E.2.2.1 + x) (r := r0) hx hb henv.1 hH.1 ms_D (ms_HS henv.2.2.1 hH hL) a t x cx (ms_cc_at (ms_arr_some hf)) h1 (ms_cc_at hgx) h2 h.1 hd fun H1 locs1 hP1 _ hS1 => kk H1 locs1 ?_ hS1
          rw [ms_cc_set]
          show va_P E.1 vwCl ((ms_cc E g).set a (E.2.2.1 + a, .inl (E.2.1 t, n, .inr (.inr (.inr (.inr fun j => ((va_up f i.toNatClampNeg (some x)) j).map fun x => E.2.2.1 + x)))))) H1
          rw [ms_up_va (α := Unit)]
          exact hP1
        rcases ht with ⟨h1, h2⟩ | ⟨h1, h2⟩
        · have e1 := Nat.eq_of_beq_eq_true h1
          have e2 := Nat.eq_of_beq_eq_true h2
          subst e1; subst e2
          exact key _ rfl rfl
        · have e1 := Nat.eq_of_beq_eq_true h1
          have e2 := Nat.eq_of_beq_eq_true h2
          subst e1; subst e2
          exact key _ rfl rfl
      | false => rw [ht] at h; exact h.elim
    · exact h.elim
  · rename_i i a r
    split at h
    · rename_i t n f hf
      cases ht : (Nat.ble 3 t && Nat.ble t 4) with
      | true =>
        rw [ht] at h
        simp only [cond_true] at h
        refine ms_wrote hz henv.2.2.1 ?_ ?_ h.2 fun H locs arr ha hH hL kk => ?_
        · simp
        · exact ms_tot_set (ms_arr_some hf) rfl
        simp only [Bool.and_eq_true] at ht
        have h3 : 3 ≤ t := Nat.le_of_ble_eq_true ht.1
        have h4 : t ≤ 4 := Nat.le_of_ble_eq_true ht.2
        have ht0 : ∃ Cn, (ms_tys E)[t]? = some (E.2.1 t, .object Cn) := by
          rcases (show t = 3 ∨ t = 4 by omega) with rfl | rfl
          · exact ⟨_, rfl⟩
          · exact ⟨_, rfl⟩
        obtain ⟨Cn, ht0⟩ := ht0
        refine va_astqN (D := E.1) (cl := vwCl) (ws := ms_cc E g) (tys := ms_tys E) (f := fun j => (f j).map fun x => E.2.2.1 + x) (C := Cn) hx hb henv.1 hH.1 ms_D (ms_HS henv.2.2.1 hH hL) a t (ms_cc_at (ms_arr_some hf)) ht0 h.1 hd fun H1 locs1 hP1 _ hS1 => kk H1 locs1 ?_ hS1
        rw [ms_cc_set]
        show va_P E.1 vwCl ((ms_cc E g).set a (E.2.2.1 + a, .inl (E.2.1 t, n, .inr (.inr (.inr (.inr fun j => ((va_up f i.toNatClampNeg none) j).map fun x => E.2.2.1 + x)))))) H1
        rw [ms_up_va (α := Unit)]
        exact hP1
      | false => rw [ht] at h; exact h.elim
    · exact h.elim
  · exact h.elim
theorem ms_s_len (C : ms_Ctx p R s m meth c E cc own nm nL N0 d) (hX : X = none ∨ X = some (E.2.2.2.2.2.1, E.2.2.2.2.2.2)) (hd : decode cc pc = .ok (.arraylength, 1)) (h : ms_len X (ms_P p l e R s m args below meth c Qw E nL N0 T0) (pc + 1) ls st g) : ms_P p l e R s m args below meth c Qw E nL N0 T0 pc ls st g := by
  obtain ⟨hx, hb, hml, hown, hin, henv, hz, -, -⟩ := C
  unfold ms_len at h
  split at h
  · rename_i a r
    split at h
    · rename_i y hy
      obtain ⟨t, n, f⟩ := y
      cases ht : Nat.ble t 4 with
      | true =>
        simp only [ht] at h
        have h4 : t ≤ 4 := Nat.le_of_ble_eq_true ht
        have ht0 : ∃ ty, (ms_tys E)[t]? = some (E.2.1 t, ty) := by
          rcases (show t = 0 ∨ t = 1 ∨ t = 2 ∨ t = 3 ∨ t = 4 by omega) with rfl | rfl | rfl | rfl | rfl <;> exact ⟨_, rfl⟩
        obtain ⟨ty, ht0⟩ := ht0
        have hu : ∃ z : vp_A, ms_uc E (.inl (t, n, f)) = .inl (E.2.1 t, z) ∧ z.1 = n := by
          rcases f with f | f | f <;> exact ⟨_, rfl, rfl⟩
        obtain ⟨z, hz1, hz2⟩ := hu
        refine ms_pure' h fun H locs arr ha hH hL kk => va_alen (D := E.1) (cl := vwCl) (ws := ms_cc E g) (tys := ms_tys E) (x := z) (ty := ty) hx hb henv.1 hH.1 a t ?_ ht0 (by rw [hz2]) hd kk
        rw [← hz1]
        exact ms_cc_at (ms_arr_some hy)
      | false => simp only [ht] at h; exact h.elim
    · exact h.elim
  · split at h
    · rcases hX with hX | hX
      · cases hX
      · cases hX
        exact ms_pure' h fun H locs arr ha hH hL kk => va_slen (A := ms_fr E) hx hb henv.2.2.2.1 (by rw [henv.2.2.1]; exact henv.2.2.2.2.1) (Nat.not_le.mpr henv.2.2.2.2.1) (ms_HS henv.2.2.1 hH hL) hd kk
    · exact h.elim
  · exact h.elim
theorem ms_s_new (C : ms_Ctx p R s m meth c E cc own nm nL N0 d) {idx ci pl pi pn : Nat} (hd : decode cc pc = .ok (.new idx, 3)) (h0 : Nat.blt ci 10 = true) (h1 : ms_isw pl (.classLink own idx (ms_R ci)) = true) (h2 : ms_isw pi (.instantiable (ms_R ci) (ms_N ci)) = true) (h3 : ms_isw pn (.initialized (ms_R ci)) = true)
    (h : ms_P p l e R s m args below meth c Qw E nL N0 T0 (pc + 3) ls (.ref g.length :: st) (g ++ [.inr (ci, ms_blank ci)])) : ms_P p l e R s m args below meth c Qw E nL N0 T0 pc ls st g := by
  obtain ⟨hx, hb, hml, hown, hin, henv, hz, -, -⟩ := C
  have hci : ci < 10 := (Nat.le_of_ble_eq_true h0 : ci + 1 ≤ 10)
  obtain ⟨c1, c2, c3, c4⟩ := ms_cls ci hci
  refine ms_made (cl := .inr (ci, ms_blank ci)) hz henv.2.2.1 (sz := ms_N ci) (ms_blank_len ci) h fun H locs arr hc hs ha hH hL kk => ?_
  refine va_new (D := E.1) (cl := vwCl) (ws := ms_cc E g) (tys := ms_tys E) (C := ms_R ci) (T := ms_T ci) (N := ms_N ci) (ci := ci) (own := own) (A := ms_fr E) (H0 := E.2.2.2.1) (fs := ms_blank ci) hx hb (ms_inX c2 henv) (fun _ h => h) (ms_ty ci) c3 hown (ms_isw_use h1 henv rfl) (ms_isw_use h2 henv rfl) (ms_isw_use h3 henv rfl) henv.1 hH.1 ms_D (ms_HS henv.2.2.1 hH hL) (fun q hq => by rw [henv.2.2.1] at hq; exact hq) c1 (fun j hj => ms_blank_ok hci hj) hc hs hd fun q H1 hP1 hD1 hS1 => ?_
  have hu : ms_uc E (.inr (ci, ms_blank ci)) = .inr (ci, ms_blank ci) := by
    show Sum.inr (ci, (ms_blank ci).map (ms_up E)) = _
    rw [ms_blank_up]
  rw [← hu] at hP1 hD1
  exact kk q H1 hP1 hD1 hS1
theorem ms_s_newa (C : ms_Ctx p R s m meth c E cc own nm nL N0 d) {t : ArrayType} {pl : Nat} (hd : decode cc pc = .ok (.newarray t, 2)) (h1 : ms_isw pl (.arrayClass (newarray.typeOf t)) = true)
    (h : ms_newarr (ms_P p l e R s m args below meth c Qw E nL N0 T0) t (pc + 2) ls st g) : ms_P p l e R s m args below meth c Qw E nL N0 T0 pc ls st g := by
  obtain ⟨hx, hb, hml, hown, hin, henv, hz, -, -⟩ := C
  have harr : (Cond.arrayClass (newarray.typeOf t)).before args s = true := ms_isw_ok h1 henv
  have hA : ∀ q, E.2.2.2.1.size ≤ q → ms_fr E q := fun q hq => by rw [henv.2.2.1] at hq; exact hq
  unfold ms_newarr at h
  split at h
  · rename_i n r
    cases t with
    | int =>
      refine ms_made (sz := n.toNatClampNeg) hz henv.2.2.1 rfl h.2.2 fun H locs arr hc hs ha hH hL kk => ?_
      refine va_newa (D := E.1) (cl := vwCl) (ws := ms_cc E g) (tys := ms_tys E) (A := ms_fr E) (H0 := E.2.2.2.1) (atype := .int) (ty := .int) (N' := n.toNatClampNeg) (a0 := (n.toNatClampNeg, .inl fun _ => 0)) hx hb harr rfl henv.1 hH.1 ms_D (ms_HS henv.2.2.1 hH hL) hA (fun cA => rfl) h.1 rfl (by have := h.2.1; show n.toNatClampNeg * 4 ≤ 536870912; omega) hc hs hd fun q cA H1 hK1 hP1 hD1 hS1 => ?_
      have hcA : cA = E.2.1 0 := by
        have e1 := ms_findA (hK1.2 (ms_tys E).length (cA, .int) (by simp)).2
        have e2 := ms_findA (henv.1.2 0 _ rfl).2
        exact Option.some.inj (e1.symm.trans e2)
      subst hcA
      exact kk q H1 hP1 hD1 hS1
    | boolean =>
      refine ms_made (sz := n.toNatClampNeg) hz henv.2.2.1 rfl h.2.2 fun H locs arr hc hs ha hH hL kk => ?_
      refine va_newa (D := E.1) (cl := vwCl) (ws := ms_cc E g) (tys := ms_tys E) (A := ms_fr E) (H0 := E.2.2.2.1) (atype := .boolean) (ty := .boolean) (N' := n.toNatClampNeg) (a0 := (n.toNatClampNeg, .inl fun _ => 0)) hx hb harr rfl henv.1 hH.1 ms_D (ms_HS henv.2.2.1 hH hL) hA (fun cA => rfl) h.1 rfl (by have := h.2.1; show n.toNatClampNeg * 1 ≤ 536870912; omega) hc hs hd fun q cA H1 hK1 hP1 hD1 hS1 => ?_
      have hcA : cA = E.2.1 2 := by
        have e1 := ms_findA (hK1.2 (ms_tys E).length (cA, .boolean) (by simp)).2
        have e2 := ms_findA (henv.1.2 2 _ rfl).2
        exact Option.some.inj (e1.symm.trans e2)
      subst hcA
      exact kk q H1 hP1 hD1 hS1
    | long =>
      refine ms_made (sz := n.toNatClampNeg) hz henv.2.2.1 rfl h.2.2 fun H locs arr hc hs ha hH hL kk => ?_
      refine va_newa (D := E.1) (cl := vwCl) (ws := ms_cc E g) (tys := ms_tys E) (A := ms_fr E) (H0 := E.2.2.2.1) (atype := .long) (ty := .long) (N' := n.toNatClampNeg) (a0 := (n.toNatClampNeg, .inr (.inl fun _ => 0))) hx hb harr rfl henv.1 hH.1 ms_D (ms_HS henv.2.2.1 hH hL) hA (fun cA => rfl) h.1 rfl (by have := h.2.1; show n.toNatClampNeg * 8 ≤ 536870912; omega) hc hs hd fun q cA H1 hK1 hP1 hD1 hS1 => ?_
      have hcA : cA = E.2.1 1 := by
        have e1 := ms_findA (hK1.2 (ms_tys E).length (cA, .long) (by simp)).2
        have e2 := ms_findA (henv.1.2 1 _ rfl).2
        exact Option.some.inj (e1.symm.trans e2)
      subst hcA
      exact kk q H1 hP1 hD1 hS1
    | _ => exact h.elim
  · exact h.elim
theorem ms_s_newq (C : ms_Ctx p R s m meth c E cc own nm nL N0 d) {idx t pl po : Nat} {Cn : String} {r0 : List Nat} (hd : decode cc pc = .ok (.anewarray idx, 3)) (ht : (ms_tys E)[t]? = some (E.2.1 t, .object Cn)) (h1 : ms_isw pl (.classLink own idx Cn) = true) (h2 : ms_isw po (.arrayOver (.object Cn)) = true)
    (h : ms_newq (ms_P p l e R s m args below meth c Qw E nL N0 T0) (t :: r0) (pc + 3) ls st g) : ms_P p l e R s m args below meth c Qw E nL N0 T0 pc ls st g := by
  obtain ⟨hx, hb, hml, hown, hin, henv, hz, -, -⟩ := C
  have hA : ∀ q, E.2.2.2.1.size ≤ q → ms_fr E q := fun q hq => by rw [henv.2.2.1] at hq; exact hq
  dsimp only [ms_newq] at h
  split at h
  · rename_i n r
    refine ms_made (sz := n.toNatClampNeg) hz henv.2.2.1 rfl h.2.2 fun H locs arr hc hs ha hH hL kk => ?_
    refine va_newq (D := E.1) (cl := vwCl) (ws := ms_cc E g) (tys := ms_tys E) (A := ms_fr E) (H0 := E.2.2.2.1) (C := Cn) (own := own) hx hb hown (ms_isw_use h1 henv rfl) (ms_isw_ok h2 henv) henv.1 hH.1 ms_D (ms_HS henv.2.2.1 hH hL) hA h.1 rfl (by have := h.2.1; omega) hc hs hd fun q cA H1 hK1 hP1 hD1 hS1 => ?_
    have hcA : cA = E.2.1 t := by
      have e1 := ms_findA (hK1.2 (ms_tys E).length (cA, .object Cn) (by simp)).2
      have e2 := ms_findA (henv.1.2 t _ ht).2
      exact Option.some.inj (e1.symm.trans e2)
    subst hcA
    exact kk q H1 hP1 hD1 hS1
  · exact h.elim
end Snd2
