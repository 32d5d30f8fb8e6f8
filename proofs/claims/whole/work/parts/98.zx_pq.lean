/-! WHAT IS PENDING ON THE PILE, as meanings; what the grammar leaves; written by wip/whole/mdl.py from zx_pq.txt -/
def PQ (c0 : Nat) (f : dn_T) (Q : pl_T) (o a : Nat → Nat) (c m : Nat) : Prop := CM (sq Q o a c).1 (sq Q o a c).2.1 c0 (sq Q o a c).2.2 m f ∧ ∀ i, i < c0 → (sq Q o a c).1 i = o i ∧ (sq Q o a c).2.1 i = a i
section Pq
variable {b : Nat → Nat} {n s lv c c0 c1 k m m1 m2 : Nat} {P Q R : pl_T} {o a : Nat → Nat} {f g : dn_T}
theorem sq_app : ∀ (Q : pl_T) (o a : Nat → Nat) (c : Nat), sq (Q ++ R) o a c = sq R (sq Q o a c).1 (sq Q o a c).2.1 (sq Q o a c).2.2
  | [], _, _, _ => rfl
  | x :: r, o, a, c => by
    show sq (x :: (r ++ R)) o a c = sq R (sq (x :: r) o a c).1 (sq (x :: r) o a c).2.1 (sq (x :: r) o a c).2.2
    rw [sq, sq]
    split
    · exact sq_app r _ _ _
    · exact sq_app r _ _ _
theorem PQ_nil (h : CM o a c0 c m f) : PQ c0 f [] o a c m := ⟨h, fun _ _ => ⟨rfl, rfl⟩⟩
theorem PQ_op (hL : CM o a c0 c1 m1 f) (hR : PQ c1 g Q o a c m2) (hk : 20 ≤ k ∧ k < 27) : PQ c0 (dn_op (z_sg k) f g) (Q ++ [(k, 0)]) o a c (m1 + m2) := by
  obtain ⟨r1, r2⟩ := hR
  unfold PQ
  rw [sq_app]
  generalize sq Q o a c = T at r1 r2 ⊢
  have e1 := hL.1
  have e2 := r1.1
  have es : sq [(k, 0)] T.1 T.2.1 T.2.2 = (fun i => if i = T.2.2 then k else T.1 i, fun i => if i = T.2.2 then 0 else T.2.1 i, T.2.2 + 1) := by
    rw [sq, if_neg (by show ¬ (k = 28 ∨ k = 29); omega)]
    rfl
  rw [es]
  refine ⟨?_, fun i hi => ⟨(if_neg (by omega)).trans (r2 i (by omega)).1, (if_neg (by omega)).trans (r2 i (by omega)).2⟩⟩
  have := CM_op (o := fun i => if i = T.2.2 then k else T.1 i) (a := fun i => if i = T.2.2 then 0 else T.2.1 i) (hL.loc (fun i i1 i2 => ⟨(if_neg (by omega)).trans (r2 i i2).1, (if_neg (by omega)).trans (r2 i i2).2⟩)) (r1.loc (fun i i1 i2 => ⟨if_neg (by omega), if_neg (by omega)⟩)) (by show 20 ≤ (if T.2.2 = T.2.2 then k else T.1 T.2.2) ∧ (if T.2.2 = T.2.2 then k else T.1 T.2.2) < 27; rw [if_pos rfl]; exact hk)
  rw [show (if T.2.2 = T.2.2 then k else T.1 T.2.2) = k from if_pos rfl] at this
  exact this
theorem PQ_not (hR : PQ c0 g Q o a c m) : PQ c0 (dn_not g) (Q ++ [(27, 0)]) o a c m := by
  obtain ⟨r1, r2⟩ := hR
  unfold PQ
  rw [sq_app]
  generalize sq Q o a c = T at r1 r2 ⊢
  have e2 := r1.1
  have es : sq [(27, 0)] T.1 T.2.1 T.2.2 = (fun i => if i = T.2.2 then 27 else T.1 i, fun i => if i = T.2.2 then 0 else T.2.1 i, T.2.2 + 1) := rfl
  rw [es]
  refine ⟨?_, fun i hi => ⟨(if_neg (by omega)).trans (r2 i hi).1, (if_neg (by omega)).trans (r2 i hi).2⟩⟩
  exact CM_not (r1.loc (fun i i1 i2 => ⟨if_neg (by omega), if_neg (by omega)⟩)) (if_pos rfl)
theorem PQ_and (hL : CM o a c0 c1 m1 f) (ho : o c1 = 28) (hR : PQ (c1 + 1) g Q o a c m2) : PQ c0 (dn_and f g) (Q ++ [(28, c1)]) o a c (m1 + m2) := by
  obtain ⟨r1, r2⟩ := hR
  unfold PQ
  rw [sq_app]
  generalize sq Q o a c = T at r1 r2 ⊢
  have e1 := hL.1
  have es : sq [(28, c1)] T.1 T.2.1 T.2.2 = (T.1, fun i => if i = c1 then T.2.2 else T.2.1 i, T.2.2) := rfl
  rw [es]
  refine ⟨?_, fun i hi => ⟨(r2 i (by omega)).1, (if_neg (by omega)).trans (r2 i (by omega)).2⟩⟩
  exact CM_and (m := c1) (hL.loc (fun i i1 i2 => ⟨(r2 i (by omega)).1, (if_neg (by omega)).trans (r2 i (by omega)).2⟩)) ((r2 c1 (by omega)).1.trans ho) (if_pos rfl) (r1.loc (fun i i1 i2 => ⟨rfl, if_neg (by omega)⟩))
theorem PQ_or (hb : dn_b f) (hL : CM o a c0 c1 m1 f) (ho : o c1 = 29) (hR : PQ (c1 + 1) g Q o a c m2) : PQ c0 (dn_or f g) (Q ++ [(29, c1)]) o a c (m1 + m2) := by
  obtain ⟨r1, r2⟩ := hR
  unfold PQ
  rw [sq_app]
  generalize sq Q o a c = T at r1 r2 ⊢
  have e1 := hL.1
  have es : sq [(29, c1)] T.1 T.2.1 T.2.2 = (T.1, fun i => if i = c1 then T.2.2 else T.2.1 i, T.2.2) := rfl
  rw [es]
  refine ⟨?_, fun i hi => ⟨(r2 i (by omega)).1, (if_neg (by omega)).trans (r2 i (by omega)).2⟩⟩
  exact CM_or (m := c1) hb (hL.loc (fun i i1 i2 => ⟨(r2 i (by omega)).1, (if_neg (by omega)).trans (r2 i (by omega)).2⟩)) ((r2 c1 (by omega)).1.trans ho) (if_pos rfl) (r1.loc (fun i i1 i2 => ⟨rfl, if_neg (by omega)⟩))
theorem db_or (hf : dn_b f) (hg : dn_b g) : dn_b (dn_or f g) := by
  intro env v hv h
  unfold dn_or at h
  cases hx : f env with
  | none => rw [hx] at h; cases h
  | some x =>
    rw [hx] at h
    simp only at h
    by_cases h0 : x = 0
    · rw [if_pos h0] at h
      exact hg env v hv h
    · rw [if_neg h0] at h
      have := Option.some.inj h
      rw [← this]
      exact hf env x hv hx
theorem db_and (hf : dn_b f) (hg : dn_b g) : dn_b (dn_and f g) := by
  intro env v hv h
  unfold dn_and at h
  cases hx : f env with
  | none => rw [hx] at h; cases h
  | some x =>
    rw [hx] at h
    simp only at h
    by_cases h0 : x = 0
    · rw [if_pos h0] at h
      have := Option.some.inj h
      rw [← this]
      exact Or.inl h0
    · rw [if_neg h0] at h
      exact hg env v hv h
theorem db_not (hf : dn_b f) : dn_b (dn_not f) := by
  intro env v hv h
  unfold dn_not at h
  cases hx : f env with
  | none => rw [hx] at h; cases h
  | some x =>
    rw [hx] at h
    have := Option.some.inj h
    rw [← this]
    rcases hf env x hv hx with h0 | h0
    · exact Or.inr (by rw [h0]; rfl)
    · exact Or.inl (by rw [h0]; rfl)
theorem db_cmp (hk : k = 60 ∨ k = 62 ∨ k = 61) : dn_b (dn_op k f g) := by
  intro env v hv h
  unfold dn_op at h
  cases hx : f env with
  | none => rw [hx] at h; cases h
  | some x =>
    rw [hx] at h
    simp only at h
    cases hy : g env with
    | none => rw [hy] at h; cases h
    | some y =>
      rw [hy] at h
      simp only at h
      unfold w_jn at h
      rw [if_neg (by omega)] at h
      split at h
      · cases h
      split at h
      · cases h
      have := Option.some.inj h
      rw [← this]
      unfold w_op
      rw [if_neg (by omega), if_neg (by omega), if_neg (by omega), if_neg (by omega)]
      rcases hk with h | h | h
      · rw [if_pos h]
        split
        · exact Or.inr rfl
        · exact Or.inl rfl
      · rw [if_neg (by omega), if_pos h]
        split
        · exact Or.inr rfl
        · exact Or.inl rfl
      · rw [if_neg (by omega), if_neg (by omega)]
        split
        · exact Or.inr rfl
        · exact Or.inl rfl
theorem db_env {i : Nat} (h1 : 7 ≤ i) (h2 : i < 12) : dn_b (fun env => some (env i).toInt64) := by
  intro env v hv h
  have := Option.some.inj h
  rw [← this]
  rcases hv i h1 h2 with h0 | h0
  · exact Or.inl (by rw [h0]; rfl)
  · exact Or.inr (by rw [h0]; rfl)
theorem pzB_l {r : Option pr_T} {q : dn_T → Nat → Nat → Option pr_T} {x : dn_T × Nat × Nat} (h : pzB r q = some (.inl x)) : ∃ y, r = some (.inl y) ∧ q y.1 y.2.1 y.2.2 = some (.inl x) := by
  rcases pzB_i h with ⟨p, _, e⟩ | h
  · cases e
  · exact h
theorem pz_bl : ∀ (F k dp : Nat) (f0 : dn_T) (s lv : Nat) (x : dn_T × Nat × Nat), pz b n F k dp f0 s lv = some (.inl x) → ((k = 0 ∨ k = 1 ∨ k = 2 ∨ k = 4) → dn_b x.1) ∧ ((k = 8 ∨ k = 9) → dn_b f0 → dn_b x.1) := by
  intro F
  induction F with
  | zero => intro k dp f0 s lv x h; cases h
  | succ F ih =>
    intro k dp f0 s lv x h
    refine ⟨fun hk => ?_, fun hk h0 => ?_⟩
    · rcases hk with rfl | rfl | rfl | rfl
      · rw [pz_0] at h
        obtain ⟨y, e, h2⟩ := pzB_l h
        exact (ih _ _ _ _ _ _ h2).2 (Or.inl rfl) ((ih _ _ _ _ _ _ e).1 (by omega))
      · rw [pz_1] at h
        obtain ⟨y, e, h2⟩ := pzB_l h
        exact (ih _ _ _ _ _ _ h2).2 (Or.inr rfl) ((ih _ _ _ _ _ _ e).1 (by omega))
      · rw [pz_2] at h
        split at h
        · obtain ⟨y, e, h2⟩ := pzB_l h
          have := Sum.inl.inj (Option.some.inj h2)
          rw [← this]
          exact db_not ((ih _ _ _ _ _ _ e).1 (by omega))
        split at h
        · split at h
          · cases h
          · obtain ⟨y, e, h2⟩ := pzB_l h
            split at h2
            · have := Sum.inl.inj (Option.some.inj h2)
              rw [← this]
              exact (ih _ _ _ _ _ _ e).1 (by omega)
            · cases h2
        split at h
        · split at h
          · cases h
          · have := Sum.inl.inj (Option.some.inj h)
            rw [← this]
            exact db_env (by omega) (by omega)
        · exact (ih _ _ _ _ _ _ h).1 (by omega)
      · rw [pz_4] at h
        obtain ⟨y, e, h2⟩ := pzB_l h
        split at h2
        · rename_i hc
          obtain ⟨y2, e2, h3⟩ := pzB_l h2
          have := Sum.inl.inj (Option.some.inj h3)
          rw [← this]
          exact db_cmp hc
        · cases h2
    · rcases hk with rfl | rfl
      · rw [pz_8] at h
        split at h
        · obtain ⟨y, e, h2⟩ := pzB_l h
          exact (ih _ _ _ _ _ _ h2).2 (Or.inl rfl) (db_or h0 ((ih _ _ _ _ _ _ e).1 (by omega)))
        · have := Sum.inl.inj (Option.some.inj h)
          rw [← this]
          exact h0
      · rw [pz_9] at h
        split at h
        · obtain ⟨y, e, h2⟩ := pzB_l h
          exact (ih _ _ _ _ _ _ h2).2 (Or.inr rfl) (db_and h0 ((ih _ _ _ _ _ _ e).1 (by omega)))
        · have := Sum.inl.inj (Option.some.inj h)
          rw [← this]
          exact h0
/-- the token behind -/
def t2 (b : Nat → Nat) (n s : Nat) : Prop := ¬ tkc b n s = 42 ∧ ¬ tkc b n s = 47
def pzT (b : Nat → Nat) (n k s s' : Nat) : Prop := if k = 6 ∨ k = 11 then t2 b n s' else if k = 5 ∨ k = 4 then nar (tkc b n s') else if k = 10 then (t2 b n s → nar (tkc b n s')) else if k = 1 ∨ k = 9 then ¬ tkc b n s' = 275 else if k = 0 then (¬ tkc b n s' = 275 ∧ ¬ tkc b n s' = 274) else if k = 8 then (¬ tkc b n s = 275 → ¬ tkc b n s' = 275 ∧ ¬ tkc b n s' = 274) else True
theorem pz_tl : ∀ (F k dp : Nat) (f0 : dn_T) (s lv : Nat) (x : dn_T × Nat × Nat), pz b n F k dp f0 s lv = some (.inl x) → pzT b n k s x.2.1 := by
  intro F
  induction F with
  | zero => intro k dp f0 s lv x h; cases h
  | succ F ih =>
    intro k dp f0 s lv x h
    by_cases h6 : k = 6
    · subst h6
      rw [pz_6] at h
      obtain ⟨y, e, h2⟩ := pzB_l h
      exact (ih _ _ _ _ _ _ h2 : t2 b n x.2.1)
    by_cases h11 : k = 11
    · subst h11
      rw [pz_11] at h
      split at h
      · obtain ⟨y, e, h2⟩ := pzB_l h
        exact (ih _ _ _ _ _ _ h2 : t2 b n x.2.1)
      · rename_i hc
        have := Sum.inl.inj (Option.some.inj h)
        rw [← this]
        show t2 b n s
        exact ⟨fun z => hc (Or.inl z), fun z => hc (Or.inr z)⟩
    by_cases h5 : k = 5
    · subst h5
      rw [pz_5] at h
      obtain ⟨y, e, h2⟩ := pzB_l h
      exact (ih _ _ _ _ _ _ h2 : t2 b n y.2.1 → nar (tkc b n x.2.1)) (ih _ _ _ _ _ _ e : t2 b n y.2.1)
    by_cases h4 : k = 4
    · subst h4
      rw [pz_4] at h
      obtain ⟨y, e, h2⟩ := pzB_l h
      split at h2
      · obtain ⟨y2, e2, h3⟩ := pzB_l h2
        have := Sum.inl.inj (Option.some.inj h3)
        rw [← this]
        exact (ih _ _ _ _ _ _ e2 : nar (tkc b n y2.2.1))
      · cases h2
    by_cases h10 : k = 10
    · subst h10
      show t2 b n s → nar (tkc b n x.2.1)
      intro hs
      rw [pz_10] at h
      split at h
      · obtain ⟨y, e, h2⟩ := pzB_l h
        exact (ih _ _ _ _ _ _ h2 : t2 b n y.2.1 → nar (tkc b n x.2.1)) (ih _ _ _ _ _ _ e : t2 b n y.2.1)
      · rename_i hc
        have := Sum.inl.inj (Option.some.inj h)
        rw [← this]
        exact ⟨fun z => hc (Or.inl z), fun z => hc (Or.inr z), hs.1, hs.2⟩
    by_cases h1 : k = 1
    · subst h1
      rw [pz_1] at h
      obtain ⟨y, e, h2⟩ := pzB_l h
      exact (ih _ _ _ _ _ _ h2 : ¬ tkc b n x.2.1 = 275)
    by_cases h9 : k = 9
    · subst h9
      rw [pz_9] at h
      split at h
      · obtain ⟨y, e, h2⟩ := pzB_l h
        exact (ih _ _ _ _ _ _ h2 : ¬ tkc b n x.2.1 = 275)
      · rename_i hc
        have := Sum.inl.inj (Option.some.inj h)
        rw [← this]
        exact hc
    by_cases h0 : k = 0
    · subst h0
      rw [pz_0] at h
      obtain ⟨y, e, h2⟩ := pzB_l h
      exact (ih _ _ _ _ _ _ h2 : ¬ tkc b n y.2.1 = 275 → ¬ tkc b n x.2.1 = 275 ∧ ¬ tkc b n x.2.1 = 274) (ih _ _ _ _ _ _ e : ¬ tkc b n y.2.1 = 275)
    by_cases h8 : k = 8
    · subst h8
      show ¬ tkc b n s = 275 → ¬ tkc b n x.2.1 = 275 ∧ ¬ tkc b n x.2.1 = 274
      intro hs
      rw [pz_8] at h
      split at h
      · obtain ⟨y, e, h2⟩ := pzB_l h
        exact (ih _ _ _ _ _ _ h2 : ¬ tkc b n y.2.1 = 275 → ¬ tkc b n x.2.1 = 275 ∧ ¬ tkc b n x.2.1 = 274) (ih _ _ _ _ _ _ e : ¬ tkc b n y.2.1 = 275)
      · rename_i hc
        have := Sum.inl.inj (Option.some.inj h)
        rw [← this]
        exact ⟨hs, hc⟩
    unfold pzT
    rw [if_neg (by omega), if_neg (by omega), if_neg (by omega), if_neg (by omega), if_neg (by omega), if_neg (by omega)]
    trivial
end Pq
