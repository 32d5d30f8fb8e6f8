/-! WHAT A CALL LEAVES, told by a property: out of the machine with a property behind it comes one answer that has it -/
section Det
variable {X : Option (Nat × (Nat → Int32))} {rt : Nat} {T : ms_TT} {Q : Option Value → ms_S → Prop} {V : Option Value → ms_S → ms_K}
theorem mx_bif {b : Bool} {A : Prop} {B : Option Value → ms_S → Prop} (f : A → ∃ r g2, Q r g2 ∧ B r g2) (h : bif b then A else False) : ∃ r g2, Q r g2 ∧ (bif b then B r g2 else False) := by
  cases b with
  | true => exact f h
  | false => exact h.elim
theorem mx_and {A C : Prop} {B : Option Value → ms_S → Prop} (f : C → ∃ r g2, Q r g2 ∧ B r g2) (h : A ∧ C) : ∃ r g2, Q r g2 ∧ (A ∧ B r g2) := by
  obtain ⟨a, c⟩ := h
  obtain ⟨r, g2, hq, hb⟩ := f c
  exact ⟨r, g2, hq, a, hb⟩
theorem mx_res {rc : Nat} {T : Option Value → ms_S → Prop} {rest : List Value} {K : List Value → ms_S → Prop} {V' : Option Value → ms_S → List Value → ms_S → Prop} (hK : ∀ st g, K st g → ∃ r g2, Q r g2 ∧ V' r g2 st g) (h : ms_res rc T rest K) : ∃ r g2, Q r g2 ∧ ms_res rc T rest (V' r g2) := by
  unfold ms_res at h ⊢
  split at h
  · obtain ⟨g1, h1, h2⟩ := h; obtain ⟨r, g2, hq, hv⟩ := hK _ _ h2; exact ⟨r, g2, hq, g1, h1, hv⟩
  · obtain ⟨x, g1, h1, h2⟩ := h; obtain ⟨r, g2, hq, hv⟩ := hK _ _ h2; exact ⟨r, g2, hq, x, g1, h1, hv⟩
  · obtain ⟨x, g1, h1, h2⟩ := h; obtain ⟨r, g2, hq, hv⟩ := hK _ _ h2; exact ⟨r, g2, hq, x, g1, h1, hv⟩
  · obtain ⟨r0, g1, h1, h2⟩ := h
    cases r0 with
    | none => obtain ⟨r, g2, hq, hv⟩ := hK _ _ h2; exact ⟨r, g2, hq, none, g1, h1, hv⟩
    | some a => obtain ⟨r, g2, hq, hv⟩ := hK _ _ h2; exact ⟨r, g2, hq, some a, g1, h1, hv⟩
theorem mx_call {K : List Value → ms_S → Prop} {V' : Option Value → ms_S → List Value → ms_S → Prop} (hK : ∀ st g, K st g → ∃ r g2, Q r g2 ∧ V' r g2 st g) {tg : List Nat} {st : List Value} {g : ms_S} (h : ms_call T K tg st g) : ∃ r g2, Q r g2 ∧ ms_call T (V' r g2) tg st g := by
  unfold ms_call at h ⊢
  split at h
  · split at h
    · exact h.elim
    · rename_i A rest hA
      split at h
      · exact mx_bif (mx_res hK) h
      · split at h
        · exact mx_bif (mx_res hK) h
        · exact mx_bif (mx_res hK) h
        · exact h.elim
  · exact h.elim
theorem mx_nat {K : List Value → ms_S → Prop} {V' : Option Value → ms_S → List Value → ms_S → Prop} (hK : ∀ st g, K st g → ∃ r g2, Q r g2 ∧ V' r g2 st g) {w : Nat} {st : List Value} {g : ms_S} (h : ms_nat K w st g) : ∃ r g2, Q r g2 ∧ ms_nat (V' r g2) w st g := by
  unfold ms_nat at h ⊢
  split at h
  · unfold ms_n0 at h ⊢
    split at h
    · exact mx_bif (hK _ _) h
    · exact h.elim
  · unfold ms_n1 at h ⊢
    split at h
    · refine mx_bif (fun h => ?_) h
      split at h
      · exact mx_and (mx_and (mx_and (mx_and (mx_and (hK _ _))))) h
      · exact h.elim
    · exact h.elim
  · unfold ms_n2 at h ⊢
    split at h
    · refine mx_bif (fun h => ?_) h
      split at h
      · exact hK _ _ h
      · exact h.elim
    · exact h.elim
  · unfold ms_n3 at h ⊢
    split at h
    · exact mx_bif (hK _ _) h
    · exact h.elim
  · unfold ms_n4 at h ⊢
    split at h
    · exact mx_bif (hK _ _) h
    · exact h.elim
  · unfold ms_n5 at h ⊢
    split at h
    · exact mx_bif (hK _ _) h
    · exact h.elim
  · unfold ms_n6 at h ⊢
    split at h
    · exact mx_bif (hK _ _) h
    · exact h.elim
  · unfold ms_n7 at h ⊢
    split at h
    · exact mx_bif (hK _ _) h
    · exact h.elim
theorem mx_sw {x : Int32} {K : Nat → Prop} {V' : Option Value → ms_S → Nat → Prop} (hK : ∀ t, K t → ∃ r g2, Q r g2 ∧ V' r g2 t) {dt : Nat} {L : List (Int32 × Nat)} (h : ms_sw x K dt L) : ∃ r g2, Q r g2 ∧ ms_sw x (V' r g2) dt L := by
  induction L with
  | nil => exact hK _ h
  | cons a r ih =>
    obtain ⟨v, t⟩ := a
    unfold ms_sw at h ⊢
    by_cases hc : x = v
    · rw [if_pos hc] at h
      simp only [if_pos hc]
      exact hK _ h
    · rw [if_neg hc] at h
      simp only [if_neg hc]
      exact ih h
theorem mx_if {c : ClassFile.Cond} {x y : Int32} {a b : Prop} {a' b' : Option Value → ms_S → Prop} (ha : a → ∃ r g2, Q r g2 ∧ a' r g2) (hb : b → ∃ r g2, Q r g2 ∧ b' r g2) (h : ms_if c x y a b) : ∃ r g2, Q r g2 ∧ ms_if c x y (a' r g2) (b' r g2) := by
  cases c <;> (unfold ms_if at h ⊢; simp only at h ⊢; split at h <;> rename_i hc <;> simp only [hc, if_true, if_false] <;> first | exact ha h | exact hb h)
set_option maxHeartbeats 4000000 in
theorem mx_wi {e : ms_I} {ls : ms_L} {st : List Value} {g : ms_S} (h : ms_wi X rt T Q (fun pc ls st g => ∃ r g2, Q r g2 ∧ V r g2 pc ls st g) e ls st g) : ∃ r g2, Q r g2 ∧ ms_wi X rt T (fun r1 g1 => r1 = r ∧ g1 = g2) (V r g2) e ls st g := by
  have hK : ∀ pc ls st g, (∃ r g2, Q r g2 ∧ V r g2 pc ls st g) → ∃ r g2, Q r g2 ∧ V r g2 pc ls st g := fun _ _ _ _ h => h
  obtain ⟨pc, i, len, tg, c, cl⟩ := e
  cases i with
  | aconst_null => exact hK _ _ _ _ h
  | iconst _ => exact hK _ _ _ _ h
  | bipush _ => exact hK _ _ _ _ h
  | sipush _ => exact hK _ _ _ _ h
  | ldc _ =>
    dsimp only [ms_wi] at h ⊢
    split at h <;> exact hK _ _ _ _ h
  | ldc_w _ => exact hK _ _ _ _ h
  | lconst _ => exact hK _ _ _ _ h
  | ldc2_w _ => exact hK _ _ _ _ h
  | iload _ | iload_n _ | lload _ | lload_n _ | aload _ | aload_n _ =>
    dsimp only [ms_wi] at h ⊢
    unfold ms_ld at h ⊢
    split at h <;> first | exact h.elim | (split at h <;> first | exact h.elim | exact hK _ _ _ _ h)
  | istore _ | istore_n _ | lstore _ | lstore_n _ | astore _ | astore_n _ =>
    dsimp only [ms_wi] at h ⊢
    unfold ms_sto at h ⊢
    split at h <;> first | exact h.elim | (split at h <;> first | exact h.elim | exact hK _ _ _ _ h)
  | iinc _ _ =>
    dsimp only [ms_wi] at h ⊢
    split at h <;> first | exact h.elim | exact hK _ _ _ _ h
  | iadd | isub | imul | iand | ior | ixor | ishl | ishr | iushr =>
    dsimp only [ms_wi] at h ⊢
    unfold ms_b2 at h ⊢
    split at h <;> first | exact h.elim | exact hK _ _ _ _ h
  | ladd | lsub | lmul =>
    dsimp only [ms_wi] at h ⊢
    unfold ms_l2 at h ⊢
    split at h <;> first | exact h.elim | exact hK _ _ _ _ h
  | idiv | irem | ldiv | lrem =>
    dsimp only [ms_wi] at h ⊢
    split at h <;> first | exact h.elim | exact mx_and (hK _ _ _ _) h
  | ineg | lshl | lcmp | i2l | l2i =>
    dsimp only [ms_wi] at h ⊢
    split at h <;> first | exact h.elim | exact hK _ _ _ _ h
  | dup | pop =>
    dsimp only [ms_wi] at h ⊢
    split at h
    · split at h <;> first | exact h.elim | exact hK _ _ _ _ h
    · exact h.elim
  | dup2 =>
    dsimp only [ms_wi] at h ⊢
    split at h
    · exact hK _ _ _ _ h
    · split at h <;> first | exact h.elim | exact hK _ _ _ _ h
    · exact h.elim
  | getfield _ =>
    dsimp only [ms_wi] at h ⊢
    unfold ms_getf at h ⊢
    split at h
    · split at h
      · split at h
        · split at h <;> first | exact h.elim | exact hK _ _ _ _ h
        · split at h <;> first | exact h.elim | exact hK _ _ _ _ h
        · split at h <;> first | exact h.elim | exact hK _ _ _ _ h
        · exact h.elim
      · exact h.elim
    · exact h.elim
  | putfield _ =>
    dsimp only [ms_wi] at h ⊢
    unfold ms_putf at h ⊢
    split at h
    · split at h
      · split at h
        · exact mx_and (hK _ _ _ _) h
        · exact h.elim
      · exact h.elim
    · exact h.elim
  | iaload | baload =>
    dsimp only [ms_wi] at h ⊢
    unfold ms_ldi at h ⊢
    split at h
    · split at h
      · exact mx_bif (mx_and (hK _ _ _ _)) h
      · exact h.elim
    · split at h
      · exact mx_and (hK _ _ _ _) h
      · exact h.elim
    · exact h.elim
  | laload =>
    dsimp only [ms_wi] at h ⊢
    unfold ms_ldl at h ⊢
    split at h
    · split at h
      · exact mx_and (hK _ _ _ _) h
      · exact h.elim
    · exact h.elim
  | aaload =>
    dsimp only [ms_wi] at h ⊢
    unfold ms_lda at h ⊢
    split at h
    · split at h
      · refine mx_bif (mx_and (fun h2 => ?_)) h
        split at h2
        · exact hK _ _ _ _ h2
        · exact hK _ _ _ _ h2
      · exact h.elim
    · exact h.elim
  | iastore =>
    dsimp only [ms_wi] at h ⊢
    unfold ms_sti at h ⊢
    split at h
    · split at h
      · exact mx_and (hK _ _ _ _) h
      · exact h.elim
    · exact h.elim
  | bastore =>
    dsimp only [ms_wi] at h ⊢
    unfold ms_stb at h ⊢
    split at h
    · split at h
      · exact mx_and (mx_and (hK _ _ _ _)) h
      · exact h.elim
    · exact h.elim
  | lastore =>
    dsimp only [ms_wi] at h ⊢
    unfold ms_stl at h ⊢
    split at h
    · split at h
      · exact mx_and (hK _ _ _ _) h
      · exact h.elim
    · exact h.elim
  | aastore =>
    dsimp only [ms_wi] at h ⊢
    unfold ms_sta at h ⊢
    split at h
    · split at h
      · exact mx_bif (mx_and (hK _ _ _ _)) h
      · exact h.elim
    · split at h
      · exact mx_bif (mx_and (hK _ _ _ _)) h
      · exact h.elim
    · exact h.elim
  | arraylength =>
    dsimp only [ms_wi] at h ⊢
    unfold ms_len at h ⊢
    split at h
    · split at h
      · exact mx_bif (hK _ _ _ _) h
      · exact h.elim
    · split at h
      · exact hK _ _ _ _ h
      · exact h.elim
    · exact h.elim
  | newarray _ =>
    dsimp only [ms_wi] at h ⊢
    unfold ms_newarr at h ⊢
    split at h
    · split at h <;> first | exact h.elim | exact mx_and (mx_and (hK _ _ _ _)) h
    · exact h.elim
  | anewarray _ =>
    dsimp only [ms_wi] at h ⊢
    unfold ms_newq at h ⊢
    split at h
    · split at h
      · exact mx_and (mx_and (hK _ _ _ _)) h
      · exact h.elim
    · exact h.elim
  | new _ =>
    dsimp only [ms_wi] at h ⊢
    split at h
    · exact hK _ _ _ _ h
    · exact h.elim
  | goto _ =>
    dsimp only [ms_wi] at h ⊢
    unfold ms_goto at h ⊢
    split at h
    · exact hK _ _ _ _ h
    · exact h.elim
  | ifCond _ _ =>
    dsimp only [ms_wi] at h ⊢
    unfold ms_if1 at h ⊢
    split at h
    · split at h
      · exact mx_if (hK _ _ _ _) (hK _ _ _ _) h
      · exact h.elim
    · exact h.elim
  | if_icmp _ _ =>
    dsimp only [ms_wi] at h ⊢
    unfold ms_if2 at h ⊢
    split at h
    · split at h
      · exact mx_if (hK _ _ _ _) (hK _ _ _ _) h
      · exact h.elim
    · exact h.elim
  | ifnull _ | ifnonnull _ =>
    dsimp only [ms_wi] at h ⊢
    unfold ms_ifn at h ⊢
    split at h
    · split at h
      · exact hK _ _ _ _ h
      · exact hK _ _ _ _ h
      · exact h.elim
    · exact h.elim
  | tableswitch _ _ _ _ =>
    dsimp only [ms_wi] at h ⊢
    unfold ms_swi at h ⊢
    split at h
    · split at h
      · exact mx_sw (fun t => hK t _ _ _) h
      · exact h.elim
    · exact h.elim
  | lookupswitch _ _ =>
    dsimp only [ms_wi] at h ⊢
    unfold ms_swl at h ⊢
    split at h
    · split at h
      · exact mx_sw (fun t => hK t _ _ _) h
      · exact h.elim
    · exact h.elim
  | checkcast _ =>
    dsimp only [ms_wi] at h ⊢
    split at h
    · split at h
      · exact hK _ _ _ _ h
      · exact h.elim
    · exact h.elim
  | invokevirtual _ | invokespecial _ | invokestatic _ =>
    dsimp only [ms_wi] at h ⊢
    unfold ms_invoke at h ⊢
    split at h
    · rename_i y r
      cases hq : Nat.ble 1000 y with
      | true =>
        simp only [hq, cond_true] at h ⊢
        generalize y - 1000 = w at h ⊢
        exact mx_nat (fun st' g' => hK (pc + len) ls st' g') h
      | false =>
        simp only [hq, cond_false] at h ⊢
        exact mx_call (fun _ _ => hK _ _ _ _) h
    · exact h.elim
  | ireturn =>
    dsimp only [ms_wi] at h ⊢
    split at h
    · split at h
      · exact ⟨_, _, h, rfl, rfl⟩
      · exact ⟨_, _, h.2, h.1, rfl, rfl⟩
      · exact h.elim
    · exact h.elim
  | lreturn =>
    dsimp only [ms_wi] at h ⊢
    split at h
    · split at h
      · exact ⟨_, _, h, rfl, rfl⟩
      · exact h.elim
    · exact h.elim
  | areturn =>
    dsimp only [ms_wi] at h ⊢
    split at h
    · split at h
      · exact ⟨_, _, h, rfl, rfl⟩
      · exact h.elim
    · split at h
      · exact ⟨_, _, h, rfl, rfl⟩
      · exact h.elim
    · exact h.elim
  | return_ =>
    dsimp only [ms_wi] at h ⊢
    split at h
    · split at h
      · exact ⟨_, _, h, rfl, rfl⟩
      · exact h.elim
    · exact h.elim
  | _ => exact h.elim
end Det
theorem mx_V {cd : List (List ms_I)} {X : Option (Nat × (Nat → Int32))} {rt : Nat} {T : ms_TT} {Q : Option Value → ms_S → Prop} {pc : Nat} {ls : ms_L} {st : List Value} {g : ms_S} (h : ms_V cd X rt T Q pc ls st g) : ∃ r g2, Q r g2 ∧ ms_V cd X rt T (fun r1 g1 => r1 = r ∧ g1 = g2) pc ls st g := by
  refine h (fun pc ls st g => ∃ r g2, Q r g2 ∧ ms_V cd X rt T (fun r1 g1 => r1 = r ∧ g1 = g2) pc ls st g) ?_ ?_
  · intro pc e ls st g hf hw
    obtain ⟨r, g2, hq, hv⟩ := mx_wi (V := fun r g2 => ms_V cd X rt T (fun r1 g1 => r1 = r ∧ g1 = g2)) hw
    exact ⟨r, g2, hq, ms_V_step hf hv⟩
  · intro pc ls ls' st g hs hw
    obtain ⟨r, g2, hq, hv⟩ := hw
    exact ⟨r, g2, hq, ms_V_sub hs hv⟩
/-- a call that leaves an answer and a store with a property -/
def ms_H' (d y : Nat) (as : List Value) (g : ms_S) (Q : Option Value → ms_S → Prop) : Prop := ∃ r g', Q r g' ∧ ms_Cl d y as g r g'
theorem mx_m {d y : Nat} {as : List Value} {cd : List (List ms_I)} {rt : Nat} {l0 : ms_L} {g : ms_S} {Q : Option Value → ms_S → Prop} (m : ∀ {g' : ms_S} {r : Option Value}, g.length ≤ g'.length → ms_tot g ≤ ms_tot g' → ms_V cd none rt (ms_Cl d) (fun r1 g1 => r1 = r ∧ g1 = g') 0 l0 [] g → ms_Cl (d + 1) y as g r g') (hq : ∀ r g', Q r g' → g.length ≤ g'.length ∧ ms_tot g ≤ ms_tot g') (h : ms_V cd none rt (ms_Cl d) Q 0 l0 [] g) : ms_H' (d + 1) y as g Q := by
  obtain ⟨r, g2, h1, h2⟩ := mx_V h
  exact ⟨r, g2, h1, m (hq _ _ h1).1 (hq _ _ h1).2 h2⟩
theorem mx_c0 {d y : Nat} {as : List Value} {g : ms_S} {Q : Option Value → ms_S → Prop} {k : ms_S → Prop} (h : ms_H' d y as g Q) (hk : ∀ r g', Q r g' → r = none ∧ k g') : ms_c0 (ms_Cl d y as g) k := by
  obtain ⟨r, g', h1, h2⟩ := h
  obtain ⟨rfl, h3⟩ := hk _ _ h1
  exact ⟨g', h2, h3⟩
theorem mx_c1 {d y : Nat} {as : List Value} {g : ms_S} {Q : Option Value → ms_S → Prop} {k : Int32 → ms_S → Prop} (h : ms_H' d y as g Q) (hk : ∀ r g', Q r g' → ∃ x, r = some (.int x) ∧ k x g') : ms_c1 (ms_Cl d y as g) k := by
  obtain ⟨r, g', h1, h2⟩ := h
  obtain ⟨x, rfl, h3⟩ := hk _ _ h1
  exact ⟨x, g', h2, h3⟩
theorem mx_c2 {d y : Nat} {as : List Value} {g : ms_S} {Q : Option Value → ms_S → Prop} {k : Int64 → ms_S → Prop} (h : ms_H' d y as g Q) (hk : ∀ r g', Q r g' → ∃ x, r = some (.long x) ∧ k x g') : ms_c2 (ms_Cl d y as g) k := by
  obtain ⟨r, g', h1, h2⟩ := h
  obtain ⟨x, rfl, h3⟩ := hk _ _ h1
  exact ⟨x, g', h2, h3⟩
