/-! ALL INSTRUCTIONS; a method's contract out of its rows -/
section Mono
variable {X : Option (Nat × (Nat → Int32))} {rt : Nat} {T : ms_TT} {Q : Option Value → ms_S → Prop} {K K' : ms_K}
theorem ms_res_mono {rc : Nat} {T : Option Value → ms_S → Prop} {rest : List Value} {K K' : List Value → ms_S → Prop} (hK : ∀ st g, K st g → K' st g) (h : ms_res rc T rest K) : ms_res rc T rest K' := by
  unfold ms_res at h ⊢
  split at h
  · obtain ⟨g1, h1, h2⟩ := h; exact ⟨g1, h1, hK _ _ h2⟩
  · obtain ⟨x, g1, h1, h2⟩ := h; exact ⟨x, g1, h1, hK _ _ h2⟩
  · obtain ⟨x, g1, h1, h2⟩ := h; exact ⟨x, g1, h1, hK _ _ h2⟩
  · obtain ⟨r, g1, h1, h2⟩ := h
    cases r with
    | none => exact ⟨none, g1, h1, hK _ _ h2⟩
    | some a => exact ⟨some a, g1, h1, hK _ _ h2⟩
theorem ms_bif {b : Bool} {A B : Prop} (f : A → B) (h : bif b then A else False) : bif b then B else False := by
  cases b with
  | true => exact f h
  | false => exact h
theorem ms_call_mono {K K' : List Value → ms_S → Prop} (hK : ∀ st g, K st g → K' st g) {tg : List Nat} {st : List Value} {g : ms_S} (h : ms_call T K tg st g) : ms_call T K' tg st g := by
  unfold ms_call at h ⊢
  split at h
  · split at h
    · exact h.elim
    · rename_i A rest hA
      split at h
      · exact ms_bif (ms_res_mono hK) h
      · split at h
        · exact ms_bif (ms_res_mono hK) h
        · exact ms_bif (ms_res_mono hK) h
        · exact h.elim
  · exact h.elim
theorem ms_nat_mono {K K' : List Value → ms_S → Prop} (hK : ∀ st g, K st g → K' st g) {w : Nat} {st : List Value} {g : ms_S} (h : ms_nat K w st g) : ms_nat K' w st g := by
  unfold ms_nat at h ⊢
  split at h
  · unfold ms_n0 at h ⊢
    split at h
    · exact ms_bif (hK _ _) h
    · exact h.elim
  · unfold ms_n1 at h ⊢
    split at h
    · refine ms_bif (fun h => ?_) h
      split at h
      · exact ⟨h.1, h.2.1, h.2.2.1, h.2.2.2.1, h.2.2.2.2.1, hK _ _ h.2.2.2.2.2⟩
      · exact h.elim
    · exact h.elim
  · unfold ms_n2 at h ⊢
    split at h
    · refine ms_bif (fun h => ?_) h
      split at h
      · exact hK _ _ h
      · exact h.elim
    · exact h.elim
  · unfold ms_n3 at h ⊢
    split at h
    · exact ms_bif (hK _ _) h
    · exact h.elim
  · unfold ms_n4 at h ⊢
    split at h
    · exact ms_bif (hK _ _) h
    · exact h.elim
  · unfold ms_n5 at h ⊢
    split at h
    · exact ms_bif (hK _ _) h
    · exact h.elim
  · unfold ms_n6 at h ⊢
    split at h
    · exact ms_bif (hK _ _) h
    · exact h.elim
  · unfold ms_n7 at h ⊢
    split at h
    · exact ms_bif (hK _ _) h
    · exact h.elim
theorem ms_sw_mono {x : Int32} {K K' : Nat → Prop} (hK : ∀ t, K t → K' t) {dt : Nat} {L : List (Int32 × Nat)} (h : ms_sw x K dt L) : ms_sw x K' dt L := by
  induction L with
  | nil => exact hK _ h
  | cons a r ih =>
    obtain ⟨v, t⟩ := a
    unfold ms_sw at h ⊢
    split at h
    · rename_i hc; rw [if_pos hc]; exact hK _ h
    · rename_i hc; rw [if_neg hc]; exact ih h
theorem ms_if_mono {c : ClassFile.Cond} {x y : Int32} {a b a' b' : Prop} (ha : a → a') (hb : b → b') (h : ms_if c x y a b) : ms_if c x y a' b' := by
  cases c <;> (unfold ms_if at h ⊢; simp only at h ⊢; split at h <;> rename_i hc <;> simp only [hc, if_true, if_false] <;> first | exact ha h | exact hb h)
set_option maxHeartbeats 4000000 in
theorem ms_wi_mono (hK : ∀ pc ls st g, K pc ls st g → K' pc ls st g) {e : ms_I} {ls : ms_L} {st : List Value} {g : ms_S} (h : ms_wi X rt T Q K e ls st g) : ms_wi X rt T Q K' e ls st g := by
  obtain ⟨pc, i, len, tg, c, cl⟩ := e
  cases i with
  | aconst_null => exact hK _ _ _ _ h
  | iconst _ => exact hK _ _ _ _ h
  | bipush _ => exact hK _ _ _ _ h
  | sipush _ => exact hK _ _ _ _ h
  | ldc _ =>
    dsimp only [ms_wi] at h ⊢
    split at h <;> exact hK _ _ _ _ h
  | ldc_w _ => exact hK _ _ _ _ h
  | lconst _ => exact hK _ _ _ _ h
  | ldc2_w _ => exact hK _ _ _ _ h
  | iload _ | iload_n _ | lload _ | lload_n _ | aload _ | aload_n _ =>
    dsimp only [ms_wi] at h ⊢
    unfold ms_ld at h ⊢
    split at h <;> first | exact h.elim | (split at h <;> first | exact h.elim | exact hK _ _ _ _ h)
  | istore _ | istore_n _ | lstore _ | lstore_n _ | astore _ | astore_n _ =>
    dsimp only [ms_wi] at h ⊢
    unfold ms_sto at h ⊢
    split at h <;> first | exact h.elim | (split at h <;> first | exact h.elim | exact hK _ _ _ _ h)
  | iinc _ _ =>
    dsimp only [ms_wi] at h ⊢
    split at h <;> first | exact h.elim | exact hK _ _ _ _ h
  | iadd | isub | imul | iand | ior | ixor | ishl | ishr | iushr =>
    dsimp only [ms_wi] at h ⊢
    unfold ms_b2 at h ⊢
    split at h <;> first | exact h.elim | exact hK _ _ _ _ h
  | ladd | lsub | lmul =>
    dsimp only [ms_wi] at h ⊢
    unfold ms_l2 at h ⊢
    split at h <;> first | exact h.elim | exact hK _ _ _ _ h
  | idiv | irem | ldiv | lrem =>
    dsimp only [ms_wi] at h ⊢
    split at h <;> first | exact h.elim | exact ⟨h.1, hK _ _ _ _ h.2⟩
  | ineg | lshl | lcmp | i2l | l2i =>
    dsimp only [ms_wi] at h ⊢
    split at h <;> first | exact h.elim | exact hK _ _ _ _ h
  | dup | pop =>
    dsimp only [ms_wi] at h ⊢
    split at h
    · split at h <;> first | exact h.elim | exact hK _ _ _ _ h
    · exact h.elim
  | dup2 =>
    dsimp only [ms_wi] at h ⊢
    split at h
    · exact hK _ _ _ _ h
    · split at h <;> first | exact h.elim | exact hK _ _ _ _ h
    · exact h.elim
  | getfield _ =>
    dsimp only [ms_wi] at h ⊢
    unfold ms_getf at h ⊢
    split at h
    · split at h
      · split at h
        · split at h <;> first | exact h.elim | exact hK _ _ _ _ h
        · split at h <;> first | exact h.elim | exact hK _ _ _ _ h
        · split at h <;> first | exact h.elim | exact hK _ _ _ _ h
        · exact h.elim
      · exact h.elim
    · exact h.elim
  | putfield _ =>
    dsimp only [ms_wi] at h ⊢
    unfold ms_putf at h ⊢
    split at h
    · split at h
      · split at h
        · exact ⟨h.1, hK _ _ _ _ h.2⟩
        · exact h.elim
      · exact h.elim
    · exact h.elim
  | iaload | baload =>
    dsimp only [ms_wi] at h ⊢
    unfold ms_ldi at h ⊢
    split at h
    · split at h
      · exact ms_bif (fun h => ⟨h.1, hK _ _ _ _ h.2⟩) h
      · exact h.elim
    · split at h
      · exact ⟨h.1, hK _ _ _ _ h.2⟩
      · exact h.elim
    · exact h.elim
  | laload =>
    dsimp only [ms_wi] at h ⊢
    unfold ms_ldl at h ⊢
    split at h
    · split at h
      · exact ⟨h.1, hK _ _ _ _ h.2⟩
      · exact h.elim
    · exact h.elim
  | aaload =>
    dsimp only [ms_wi] at h ⊢
    unfold ms_lda at h ⊢
    split at h
    · split at h
      · refine ms_bif (fun h => ⟨h.1, ?_⟩) h
        have h2 := h.2
        split at h2
        · exact hK _ _ _ _ h2
        · exact hK _ _ _ _ h2
      · exact h.elim
    · exact h.elim
  | iastore =>
    dsimp only [ms_wi] at h ⊢
    unfold ms_sti at h ⊢
    split at h
    · split at h
      · exact ⟨h.1, hK _ _ _ _ h.2⟩
      · exact h.elim
    · exact h.elim
  | bastore =>
    dsimp only [ms_wi] at h ⊢
    unfold ms_stb at h ⊢
    split at h
    · split at h
      · exact ⟨h.1, h.2.1, hK _ _ _ _ h.2.2⟩
      · exact h.elim
    · exact h.elim
  | lastore =>
    dsimp only [ms_wi] at h ⊢
    unfold ms_stl at h ⊢
    split at h
    · split at h
      · exact ⟨h.1, hK _ _ _ _ h.2⟩
      · exact h.elim
    · exact h.elim
  | aastore =>
    dsimp only [ms_wi] at h ⊢
    unfold ms_sta at h ⊢
    split at h
    · split at h
      · exact ms_bif (fun h => ⟨h.1, hK _ _ _ _ h.2⟩) h
      · exact h.elim
    · split at h
      · exact ms_bif (fun h => ⟨h.1, hK _ _ _ _ h.2⟩) h
      · exact h.elim
    · exact h.elim
  | arraylength =>
    dsimp only [ms_wi] at h ⊢
    unfold ms_len at h ⊢
    split at h
    · split at h
      · exact ms_bif (hK _ _ _ _) h
      · exact h.elim
    · split at h
      · exact hK _ _ _ _ h
      · exact h.elim
    · exact h.elim
  | newarray _ =>
    dsimp only [ms_wi] at h ⊢
    unfold ms_newarr at h ⊢
    split at h
    · split at h <;> first | exact h.elim | exact ⟨h.1, h.2.1, hK _ _ _ _ h.2.2⟩
    · exact h.elim
  | anewarray _ =>
    dsimp only [ms_wi] at h ⊢
    unfold ms_newq at h ⊢
    split at h
    · split at h
      · exact ⟨h.1, h.2.1, hK _ _ _ _ h.2.2⟩
      · exact h.elim
    · exact h.elim
  | new _ =>
    dsimp only [ms_wi] at h ⊢
    split at h
    · exact hK _ _ _ _ h
    · exact h.elim
  | goto _ =>
    dsimp only [ms_wi] at h ⊢
    unfold ms_goto at h ⊢
    split at h
    · exact hK _ _ _ _ h
    · exact h.elim
  | ifCond _ _ =>
    dsimp only [ms_wi] at h ⊢
    unfold ms_if1 at h ⊢
    split at h
    · split at h
      · exact ms_if_mono (hK _ _ _ _) (hK _ _ _ _) h
      · exact h.elim
    · exact h.elim
  | if_icmp _ _ =>
    dsimp only [ms_wi] at h ⊢
    unfold ms_if2 at h ⊢
    split at h
    · split at h
      · exact ms_if_mono (hK _ _ _ _) (hK _ _ _ _) h
      · exact h.elim
    · exact h.elim
  | ifnull _ | ifnonnull _ =>
    dsimp only [ms_wi] at h ⊢
    unfold ms_ifn at h ⊢
    split at h
    · split at h
      · exact hK _ _ _ _ h
      · exact hK _ _ _ _ h
      · exact h.elim
    · exact h.elim
  | tableswitch _ _ _ _ =>
    dsimp only [ms_wi] at h ⊢
    unfold ms_swi at h ⊢
    split at h
    · split at h
      · exact ms_sw_mono (fun t => hK t _ _ _) h
      · exact h.elim
    · exact h.elim
  | lookupswitch _ _ =>
    dsimp only [ms_wi] at h ⊢
    unfold ms_swl at h ⊢
    split at h
    · split at h
      · exact ms_sw_mono (fun t => hK t _ _ _) h
      · exact h.elim
    · exact h.elim
  | checkcast _ =>
    dsimp only [ms_wi] at h ⊢
    split at h
    · split at h
      · exact hK _ _ _ _ h
      · exact h.elim
    · exact h.elim
  | invokevirtual _ | invokespecial _ | invokestatic _ =>
    dsimp only [ms_wi] at h ⊢
    unfold ms_invoke at h ⊢
    split at h
    · rename_i y r
      cases hq : Nat.ble 1000 y with
      | true =>
        simp only [hq, cond_true] at h ⊢
        generalize y - 1000 = w at h ⊢
        exact ms_nat_mono (fun st' g' => hK (pc + len) ls st' g') h
      | false =>
        simp only [hq, cond_false] at h ⊢
        exact ms_call_mono (fun _ _ => hK _ _ _ _) h
    · exact h.elim
  | ireturn => exact h
  | lreturn => exact h
  | areturn => exact h
  | return_ => exact h
  | _ => exact h.elim
end Mono
section All
variable {p : Program} {l : Launch} {e : Env} {R : Room} {s : State} {m : MethodId} {args : Array Value} {below : List Frame} {meth : Method} {c : Code} {Qw : State → Prop} {E : ms_E} {cc : ByteArray} {own nm : String} {nL N0 T0 d : Nat}
variable {pc pc' : Nat} {ls ls' : ms_L} {st st' : List Value} {g g' : ms_S}
variable {X : Option (Nat × (Nat → Int32))} {rt : Nat} {Qr : Option Value → ms_S → Prop} {tg : List Nat}
set_option maxHeartbeats 4000000 in
theorem ms_close (C : ms_Ctx p R s m meth c E cc own nm nL N0 d) (hX : X = none ∨ X = some (E.2.2.2.2.2.1, E.2.2.2.2.2.2))
    (hI : ∀ (pc : Nat) (ls : ms_L) (x : Int32) (g : ms_S), decode cc pc = .ok (.ireturn, 1) → (rt = 1 ∨ (rt = 4 ∧ (x = 0 ∨ x = 1))) → Qr (some (.int x)) g → ms_P p l e R s m args below meth c Qw E nL N0 T0 pc ls [.int x] g)
    (hJ : ∀ (pc : Nat) (ls : ms_L) (x : Int64) (g : ms_S), decode cc pc = .ok (.lreturn, 1) → rt = 2 → Qr (some (.long x)) g → ms_P p l e R s m args below meth c Qw E nL N0 T0 pc ls [.long x] g)
    (hA : ∀ (pc : Nat) (ls : ms_L) (v : Value) (g : ms_S), decode cc pc = .ok (.areturn, 1) → rt = 3 → (v = .null ∨ ∃ a, v = .ref a) → Qr (some v) g → ms_P p l e R s m args below meth c Qw E nL N0 T0 pc ls [v] g)
    (hV : ∀ (pc : Nat) (ls : ms_L) (g : ms_S), decode cc pc = .ok (.return_, 1) → rt = 0 → Qr none g → ms_P p l e R s m args below meth c Qw E nL N0 T0 pc ls [] g)
    {ei : ms_I} (ho : ms_okE own nm nL ei = true) (hd : decode cc ei.1 = .ok (ei.2.1, ei.2.2.1)) (h : ms_wi X rt (ms_Cl d) Qr (ms_P p l e R s m args below meth c Qw E nL N0 T0) ei ls st g) : ms_P p l e R s m args below meth c Qw E nL N0 T0 ei.1 ls st g := by
  obtain ⟨pc, i, len, tg, c0, cl⟩ := ei
  have hx := C.1
  have hb := C.2.1
  have hown := C.2.2.2.1
  have henv := C.2.2.2.2.2.1
  simp only at hd
  cases i with
  | aconst_null =>
    cases Nat.eq_of_beq_eq_true ho
    exact ms_pure' h fun H locs arr ha hH hL kk => lv_null hx hb hd kk
  | iconst n =>
    simp only [ms_okE, Bool.and_eq_true, decide_eq_true_eq] at ho
    cases Nat.eq_of_beq_eq_true ho.1
    exact ms_pure' h fun H locs arr ha hH hL kk => lv_iconst hx hb hd ho.2 kk
  | bipush n =>
    simp only [ms_okE, Bool.and_eq_true, decide_eq_true_eq] at ho
    cases Nat.eq_of_beq_eq_true ho.1
    exact ms_pure' h fun H locs arr ha hH hL kk => lv_bipush hx hb hd ho.2 kk
  | sipush n =>
    simp only [ms_okE, Bool.and_eq_true, decide_eq_true_eq] at ho
    cases Nat.eq_of_beq_eq_true ho.1
    exact ms_pure' h fun H locs arr ha hH hL kk => lv_sipush hx hb hd ho.2 kk
  | ldc i =>
    simp only [ms_okE, Bool.and_eq_true] at ho
    cases Nat.eq_of_beq_eq_true ho.1
    have h2 := ho.2
    split at h2
    · have h3 : ms_P p l e R s m args below meth c Qw E nL N0 T0 (pc + 2) ls (.int c0 :: st) g := h
      exact ms_pure' h3 fun H locs arr ha hH hL kk => lv_ldc hx hb hown (ms_isw_use h2 henv rfl) hd kk
    · have h3 : ms_P p l e R s m args below meth c Qw E nL N0 T0 (pc + 2) ls (.retAddr 1 :: st) g := h
      simp only [decide_eq_true_eq] at h2
      obtain ⟨ho1, ho2⟩ := h2
      rw [ho1] at hown
      rw [ho2] at hd
      exact ms_pure' h3 fun H locs arr ha hH hL kk => va_ldcS hx hb hown henv.2.2.2.2.2.2.1 hd kk
    · cases h2
  | ldc_w i =>
    simp only [ms_okE, Bool.and_eq_true] at ho
    cases Nat.eq_of_beq_eq_true ho.1
    have h2 := ho.2
    split at h2
    · exact ms_pure' h fun H locs arr ha hH hL kk => lv_ldcw hx hb hown (ms_isw_use h2 henv rfl) hd kk
    · cases h2
  | ldc2_w i =>
    simp only [ms_okE, Bool.and_eq_true] at ho
    cases Nat.eq_of_beq_eq_true ho.1
    have h2 := ho.2
    split at h2
    · exact ms_pure' h fun H locs arr ha hH hL kk => lv_ldc2 hx hb hown (ms_isw_use h2 henv rfl) hd kk
    · cases h2
  | lconst n =>
    simp only [ms_okE, Bool.and_eq_true, decide_eq_true_eq] at ho
    cases Nat.eq_of_beq_eq_true ho.1
    exact ms_pure' h fun H locs arr ha hH hL kk => lv_lconst hx hb hd ho.2 kk
  | iload k =>
    cases Nat.eq_of_beq_eq_true ho
    exact ms_s_ldI hx hb (fun H locs arr x hq kk => lv_iload hx hb hd hq kk) h
  | iload_n k =>
    cases Nat.eq_of_beq_eq_true ho
    exact ms_s_ldI hx hb (fun H locs arr x hq kk => lv_iload_n hx hb hd rfl hq kk) h
  | lload k =>
    cases Nat.eq_of_beq_eq_true ho
    exact ms_s_ldL (fun H locs arr x hq kk => lv_lload hx hb hd hq kk) h
  | lload_n k =>
    cases Nat.eq_of_beq_eq_true ho
    exact ms_s_ldL (fun H locs arr x hq kk => lv_lload_n hx hb hd rfl hq kk) h
  | aload k =>
    cases Nat.eq_of_beq_eq_true ho
    exact ms_s_ldA (fun H locs arr x hq kk => lv_aload hx hb hd hq kk) (fun H locs arr hq kk => lv_aloadN hx hb hd hq kk) h
  | aload_n k =>
    cases Nat.eq_of_beq_eq_true ho
    exact ms_s_ldA (fun H locs arr x hq kk => lv_aload_n hx hb hd rfl hq kk) (fun H locs arr hq kk => lv_aload_nN hx hb hd rfl hq kk) h
  | istore k =>
    simp only [ms_okE, Bool.and_eq_true] at ho
    cases Nat.eq_of_beq_eq_true ho.1
    exact ms_s_stI (fun H locs arr x r hq kk => lv_istore hx hb hd hq (Nat.le_of_ble_eq_true ho.2) rfl kk) h
  | istore_n k =>
    simp only [ms_okE, Bool.and_eq_true] at ho
    cases Nat.eq_of_beq_eq_true ho.1
    exact ms_s_stI (fun H locs arr x r hq kk => lv_istore_n hx hb hd rfl hq (Nat.le_of_ble_eq_true ho.2) rfl kk) h
  | lstore k =>
    simp only [ms_okE, Bool.and_eq_true] at ho
    cases Nat.eq_of_beq_eq_true ho.1
    exact ms_s_stL (fun H locs arr x r hq kk => lv_lstore hx hb hd hq (Nat.le_of_ble_eq_true ho.2) rfl kk) h
  | lstore_n k =>
    simp only [ms_okE, Bool.and_eq_true] at ho
    cases Nat.eq_of_beq_eq_true ho.1
    exact ms_s_stL (fun H locs arr x r hq kk => lv_lstore_n hx hb hd rfl hq (Nat.le_of_ble_eq_true ho.2) rfl kk) h
  | astore k =>
    simp only [ms_okE, Bool.and_eq_true] at ho
    cases Nat.eq_of_beq_eq_true ho.1
    exact ms_s_stA (fun H locs arr x r hq kk => lv_astore hx hb hd hq (Nat.le_of_ble_eq_true ho.2) rfl kk) (fun H locs arr r hq kk => lv_astoreN hx hb hd hq (Nat.le_of_ble_eq_true ho.2) rfl kk) h
  | astore_n k =>
    simp only [ms_okE, Bool.and_eq_true] at ho
    cases Nat.eq_of_beq_eq_true ho.1
    exact ms_s_stA (fun H locs arr x r hq kk => lv_astore_n hx hb hd rfl hq (Nat.le_of_ble_eq_true ho.2) rfl kk) (fun H locs arr r hq kk => lv_astore_nN hx hb hd rfl hq (Nat.le_of_ble_eq_true ho.2) rfl kk) h
  | iinc k n =>
    simp only [ms_okE, Bool.and_eq_true, decide_eq_true_eq] at ho
    obtain ⟨⟨o1, o2⟩, o3⟩ := ho
    cases Nat.eq_of_beq_eq_true o1
    dsimp only [ms_wi] at h
    split at h
    · rename_i x hq
      refine ms_pure h fun H locs arr ha hH hL kk => ?_
      have hm : (k, Value.int x) ∈ ms_ul E ls := List.mem_map.mpr ⟨(k, .int x), ms_lget_mem hq, rfl⟩
      obtain ⟨j, hj⟩ := List.getElem?_of_mem hm
      exact lv_iinc (v := x + c0) (k := j) hx hb hd ha hj (by rw [o3]) (Nat.le_of_ble_eq_true o2) rfl fun ls' hl => kk ls' (ms_lset_has1 (v := .int (x + c0)) rfl rfl hl)
    · exact h.elim
  | iadd =>
    cases Nat.eq_of_beq_eq_true ho
    exact ms_s_b2 (fun H locs arr x y r kk => lv_iadd hx hb hd kk) h
  | isub =>
    cases Nat.eq_of_beq_eq_true ho
    exact ms_s_b2 (fun H locs arr x y r kk => lv_isub hx hb hd kk) h
  | imul =>
    cases Nat.eq_of_beq_eq_true ho
    exact ms_s_b2 (fun H locs arr x y r kk => lv_imul hx hb hd kk) h
  | iand =>
    cases Nat.eq_of_beq_eq_true ho
    exact ms_s_b2 (fun H locs arr x y r kk => lv_iand hx hb hd kk) h
  | ior =>
    cases Nat.eq_of_beq_eq_true ho
    exact ms_s_b2 (fun H locs arr x y r kk => lv_ior hx hb hd kk) h
  | ixor =>
    cases Nat.eq_of_beq_eq_true ho
    exact ms_s_b2 (fun H locs arr x y r kk => lv_ixor hx hb hd kk) h
  | ishl =>
    cases Nat.eq_of_beq_eq_true ho
    exact ms_s_b2 (fun H locs arr x y r kk => lv_ishl hx hb hd kk) h
  | ishr =>
    cases Nat.eq_of_beq_eq_true ho
    exact ms_s_b2 (fun H locs arr x y r kk => lv_ishr hx hb hd kk) h
  | iushr =>
    cases Nat.eq_of_beq_eq_true ho
    exact ms_s_b2 (fun H locs arr x y r kk => lv_iushr hx hb hd rfl kk) h
  | idiv =>
    cases Nat.eq_of_beq_eq_true ho
    dsimp only [ms_wi] at h
    split at h
    · exact ms_pure' h.2 fun H locs arr ha hH hL kk => lv_idiv hx hb hd h.1 kk
    · exact h.elim
  | irem =>
    cases Nat.eq_of_beq_eq_true ho
    dsimp only [ms_wi] at h
    split at h
    · exact ms_pure' h.2 fun H locs arr ha hH hL kk => lv_irem hx hb hd h.1 kk
    · exact h.elim
  | ineg =>
    cases Nat.eq_of_beq_eq_true ho
    dsimp only [ms_wi] at h
    split at h
    · exact ms_pure' h fun H locs arr ha hH hL kk => lv_ineg hx hb hd kk
    · exact h.elim
  | ladd =>
    cases Nat.eq_of_beq_eq_true ho
    exact ms_s_l2 (fun H locs arr x y r kk => lv_ladd hx hb hd kk) h
  | lsub =>
    cases Nat.eq_of_beq_eq_true ho
    exact ms_s_l2 (fun H locs arr x y r kk => lv_lsub hx hb hd kk) h
  | lmul =>
    cases Nat.eq_of_beq_eq_true ho
    exact ms_s_l2 (fun H locs arr x y r kk => lv_lmul hx hb hd kk) h
  | ldiv =>
    cases Nat.eq_of_beq_eq_true ho
    dsimp only [ms_wi] at h
    split at h
    · exact ms_pure' h.2 fun H locs arr ha hH hL kk => lv_ldiv hx hb hd h.1 kk
    · exact h.elim
  | lrem =>
    cases Nat.eq_of_beq_eq_true ho
    dsimp only [ms_wi] at h
    split at h
    · exact ms_pure' h.2 fun H locs arr ha hH hL kk => lv_lrem hx hb hd h.1 kk
    · exact h.elim
  | lshl =>
    cases Nat.eq_of_beq_eq_true ho
    dsimp only [ms_wi] at h
    split at h
    · exact ms_pure' h fun H locs arr ha hH hL kk => lv_lshl hx hb hd rfl kk
    · exact h.elim
  | lcmp =>
    cases Nat.eq_of_beq_eq_true ho
    dsimp only [ms_wi] at h
    split at h
    · exact ms_pure' h fun H locs arr ha hH hL kk => W.lcmp hx hb hd kk
    · exact h.elim
  | i2l =>
    cases Nat.eq_of_beq_eq_true ho
    dsimp only [ms_wi] at h
    split at h
    · exact ms_pure' h fun H locs arr ha hH hL kk => lv_i2l hx hb hd rfl kk
    · exact h.elim
  | l2i =>
    cases Nat.eq_of_beq_eq_true ho
    dsimp only [ms_wi] at h
    split at h
    · exact ms_pure' h fun H locs arr ha hH hL kk => lv_l2i hx hb hd rfl kk
    · exact h.elim
  | dup =>
    cases Nat.eq_of_beq_eq_true ho
    dsimp only [ms_wi] at h
    split at h
    · rename_i v r
      split at h
      · rename_i hv
        exact ms_pure' h fun H locs arr ha hH hL kk => lv_dup hx hb hd (by rw [ms_up_cat']; exact hv) kk
      · exact h.elim
    · exact h.elim
  | pop =>
    cases Nat.eq_of_beq_eq_true ho
    dsimp only [ms_wi] at h
    split at h
    · rename_i v r
      split at h
      · rename_i hv
        exact ms_pure' h fun H locs arr ha hH hL kk => lv_pop hx hb hd (by rw [ms_up_cat']; exact hv) kk
      · exact h.elim
    · exact h.elim
  | dup2 =>
    cases Nat.eq_of_beq_eq_true ho
    dsimp only [ms_wi] at h
    split at h
    · exact ms_pure' h fun H locs arr ha hH hL kk => lv_dup2_2 hx hb hd rfl kk
    · rename_i v w r _
      split at h
      · rename_i hv hw
        exact ms_pure' h fun H locs arr ha hH hL kk => lv_dup2_11 hx hb hd (by rw [ms_up_cat']; exact hv) (by rw [ms_up_cat']; exact hw) kk
      · exact h.elim
    · exact h.elim
  | getfield i =>
    simp only [ms_okE, Bool.and_eq_true] at ho
    cases Nat.eq_of_beq_eq_true ho.1
    exact ms_s_getf C hd ho.2 h
  | putfield i =>
    simp only [ms_okE, Bool.and_eq_true] at ho
    cases Nat.eq_of_beq_eq_true ho.1
    exact ms_s_putf C hd ho.2 h
  | iaload =>
    cases Nat.eq_of_beq_eq_true ho
    exact ms_s_iald C hX hd h
  | baload =>
    cases Nat.eq_of_beq_eq_true ho
    exact ms_s_bald (X := X) C hd h
  | laload =>
    cases Nat.eq_of_beq_eq_true ho
    exact ms_s_lald C hd h
  | aaload =>
    cases Nat.eq_of_beq_eq_true ho
    exact ms_s_aald C hd h
  | iastore =>
    cases Nat.eq_of_beq_eq_true ho
    exact ms_s_iast C hd h
  | bastore =>
    cases Nat.eq_of_beq_eq_true ho
    exact ms_s_bast C hd h
  | lastore =>
    cases Nat.eq_of_beq_eq_true ho
    exact ms_s_last C hd h
  | aastore =>
    cases Nat.eq_of_beq_eq_true ho
    exact ms_s_aast C hd h
  | arraylength =>
    cases Nat.eq_of_beq_eq_true ho
    exact ms_s_len C hX hd h
  | newarray t =>
    simp only [ms_okE, Bool.and_eq_true] at ho
    cases Nat.eq_of_beq_eq_true ho.1
    have h2 := ho.2
    split at h2
    · exact ms_s_newa C hd h2 h
    · cases h2
  | anewarray i =>
    simp only [ms_okE, Bool.and_eq_true] at ho
    cases Nat.eq_of_beq_eq_true ho.1
    have h2 := ho.2
    dsimp only [ms_wi] at h
    split at h2
    · simp only [Bool.or_eq_true, Bool.and_eq_true] at h2
      rcases h2 with ⟨⟨q1, q2⟩, q3⟩ | ⟨⟨q1, q2⟩, q3⟩
      · have q4 := Nat.eq_of_beq_eq_true q1
        subst q4
        exact ms_s_newq C hd rfl q2 q3 h
      · have q4 := Nat.eq_of_beq_eq_true q1
        subst q4
        exact ms_s_newq C hd rfl q2 q3 h
    · cases h2
  | new i =>
    simp only [ms_okE, Bool.and_eq_true] at ho
    cases Nat.eq_of_beq_eq_true ho.1
    have h2 := ho.2
    split at h2
    · simp only [Bool.and_eq_true] at h2
      exact ms_s_new C hd h2.1.1.1 h2.1.1.2 h2.1.2 h2.2 h
    · cases h2
  | goto o =>
    simp only [ms_okE, Bool.and_eq_true] at ho
    cases Nat.eq_of_beq_eq_true ho.1
    exact ms_s_goto hx hb hd ho.2 h
  | ifCond k o =>
    simp only [ms_okE, Bool.and_eq_true] at ho
    cases Nat.eq_of_beq_eq_true ho.1
    exact ms_s_if1 hx hb hd ho.2 h
  | if_icmp k o =>
    simp only [ms_okE, Bool.and_eq_true] at ho
    cases Nat.eq_of_beq_eq_true ho.1
    exact ms_s_if2 hx hb hd ho.2 h
  | ifnull o =>
    simp only [ms_okE, Bool.and_eq_true] at ho
    cases Nat.eq_of_beq_eq_true ho.1
    exact ms_s_ifnull hx hb hd ho.2 h
  | ifnonnull o =>
    simp only [ms_okE, Bool.and_eq_true] at ho
    cases Nat.eq_of_beq_eq_true ho.1
    exact ms_s_ifnonnull hx hb hd ho.2 h
  | tableswitch dt lo hi offs => exact ms_s_tsw hx hb hd ho h
  | lookupswitch dt ps => exact ms_s_lsw hx hb hd ho h
  | checkcast i =>
    simp only [ms_okE, Bool.and_eq_true] at ho
    cases Nat.eq_of_beq_eq_true ho.1
    have h2 := ho.2
    split at h2
    · dsimp only [ms_wi] at h
      split at h
      · rename_i a r
        split at h
        · rename_i na fa hf1
          refine ms_pure' h fun H locs arr ha hH hL kk => ?_
          have hu : ∃ z : vp_A, ms_uc E (.inl (0, na, fa)) = .inl (E.2.1 0, z) := by
            rcases fa with f | f | f <;> exact ⟨_, rfl⟩
          obtain ⟨z, hz⟩ := hu
          exact va_castA (D := E.1) (cl := vwCl) (ws := ms_cc E g) (own := own) (nm := "[I") (x := z) hx hb hown (ms_isw_use h2 henv rfl) hH.1 a (by rw [← hz]; exact ms_cc_at (ms_arr_some hf1)) (ms_findA (henv.1.2 0 _ rfl).2) hd kk
        · exact h.elim
      · exact h.elim
    · cases h2
  | invokevirtual i =>
    simp only [ms_okE, Bool.and_eq_true] at ho
    cases Nat.eq_of_beq_eq_true ho.1
    exact ms_s_invoke C (Or.inr (Or.inl ⟨rfl, rfl⟩)) hd ho.2 h
  | invokespecial i =>
    simp only [ms_okE, Bool.and_eq_true] at ho
    cases Nat.eq_of_beq_eq_true ho.1
    exact ms_s_invoke C (Or.inr (Or.inr ⟨rfl, rfl⟩)) hd ho.2 h
  | invokestatic i =>
    simp only [ms_okE, Bool.and_eq_true] at ho
    cases Nat.eq_of_beq_eq_true ho.1
    exact ms_s_invoke C (Or.inl ⟨rfl, rfl⟩) hd ho.2 h
  | ireturn =>
    cases Nat.eq_of_beq_eq_true ho
    dsimp only [ms_wi] at h
    split at h
    · split at h
      · exact hI _ _ _ _ hd (Or.inl rfl) h
      · exact hI _ _ _ _ hd (Or.inr ⟨rfl, h.1⟩) h.2
      · exact h.elim
    · exact h.elim
  | lreturn =>
    cases Nat.eq_of_beq_eq_true ho
    dsimp only [ms_wi] at h
    split at h
    · split at h
      · exact hJ _ _ _ _ hd rfl h
      · exact h.elim
    · exact h.elim
  | areturn =>
    cases Nat.eq_of_beq_eq_true ho
    dsimp only [ms_wi] at h
    split at h
    · split at h
      · exact hA _ _ _ _ hd rfl (Or.inr ⟨_, rfl⟩) h
      · exact h.elim
    · split at h
      · exact hA _ _ _ _ hd rfl (Or.inl rfl) h
      · exact h.elim
    · exact h.elim
  | return_ =>
    cases Nat.eq_of_beq_eq_true ho
    dsimp only [ms_wi] at h
    split at h
    · split at h
      · exact hV _ _ _ hd rfl h
      · exact h.elim
    · exact h.elim
  | _ => exact h.elim
end All
