/-! THE MODEL'S isWord, isSign, must, begin; written by wip/whole/mdl.py from zg_mu.txt -/
section Mu
variable {b : Nat → Nat} {n s e f k c d p : Nat} {l w : List Nat} {P : Nat → Bool} {h t : ms_S} {M N : md_T} {g : ms_S} {x : Int64}
theorem tok_e (hp : n ≤ skp b n s) : tok b n s = (301, 0, skp b n s, skp b n s) := by
  unfold tok
  exact if_pos hp
theorem tok_w (hp : skp b n s < n) (hl : ltr (b (skp b n s)) = true) : tok b n s = (wd (byts b (skp b n s) (run ltr b n n (skp b n s + 1))), 0, skp b n s, run ltr b n n (skp b n s + 1)) := by
  show (if n ≤ skp b n s then _ else if ltr (b (skp b n s)) = true then _ else _) = _
  rw [if_neg (by omega), if_pos hl]
  rfl
theorem tok_d (hp : skp b n s < n) (hl : ltr (b (skp b n s)) = false) (hd : dgt (b (skp b n s)) = true) : tok b n s = (300, nmb b (skp b n s) (run dgt b n n (skp b n s + 1) - skp b n s), skp b n s, run dgt b n n (skp b n s + 1)) := by
  show (if n ≤ skp b n s then _ else if ltr (b (skp b n s)) = true then _ else if dgt (b (skp b n s)) = true then _ else _) = _
  rw [if_neg (by omega), if_neg (by rw [hl]; decide), if_pos hd]
  rfl
theorem tok_s (hp : skp b n s < n) (hl : ltr (b (skp b n s)) = false) (hd : dgt (b (skp b n s)) = false) : tok b n s = (b (skp b n s), 0, skp b n s, skp b n s + 1) := by
  show (if n ≤ skp b n s then _ else if ltr (b (skp b n s)) = true then _ else if dgt (b (skp b n s)) = true then _ else _) = _
  rw [if_neg (by omega), if_neg (by rw [hl]; decide), if_neg (by rw [hd]; decide)]
  rfl
theorem WL_10 : WL.all (fun w => decide (w.length ≤ 10)) = true := by decide
theorem WL_l : WL.all (fun w => w.all ltr) = true := by decide
theorem skp_le (hs : s ≤ n) : skp b n s ≤ n := run_le n s hs
theorem wd_ge : 256 ≤ wd l ∧ wd l ≤ 302 := by
  have : ∀ (W : List (List Nat)) (k : Nat), k + W.length ≤ 302 → k ≤ wdn l W k ∧ wdn l W k ≤ 302 := by
    intro W
    induction W with
    | nil => intro k hk; exact ⟨hk, Nat.le_refl _⟩
    | cons a W ih =>
      intro k hk
      have hk : k + (W.length + 1) ≤ 302 := hk
      unfold wdn
      split
      · exact ⟨Nat.le_refl _, by omega⟩
      · have := ih (k + 1) (by omega)
        omega
  exact this WL 256 (by decide)
theorem wd_no : ¬ (277 ≤ wd l ∧ wd l ≤ 301) := by
  have : ∀ (W : List (List Nat)) (k : Nat), k + W.length ≤ 277 → wdn l W k < k + W.length ∨ wdn l W k = 302 := by
    intro W
    induction W with
    | nil => intro k hk; exact Or.inr rfl
    | cons a W ih =>
      intro k hk
      have hk : k + (W.length + 1) ≤ 277 := hk
      unfold wdn
      split
      · exact Or.inl (by show k < k + (W.length + 1); omega)
      · have h1 := ih (k + 1) (by omega)
        rcases h1 with h1 | h1
        · exact Or.inl (by show _ < k + (W.length + 1); omega)
        · exact Or.inr h1
  have h2 := this WL 256 (by decide)
  have h3 : WL.length = 21 := by decide
  unfold wd
  omega
theorem n_isWord (hK : TK b n s N) (hb : ∀ k, k < n → b k < 256) (hk : k < 21) (hw : WL[k]? = some w) (hx : isL x (hr w.reverse)) : ms_Cl (d + 1) 177 [.ref h.length, .long x] (ms_m h N t) (some (.int (ms_bi (decide ((tok b n s).1 = 256 + k))))) (ms_m h N t) := by
  have hwm := List.mem_of_getElem? hw
  have hw10 := of_decide_eq_true (List.all_eq_true.mp WL_10 w hwm)
  have hwl := List.all_eq_true.mp WL_l w hwm
  refine m_X9_isWord (Nat.le_refl _) (Nat.le_refl _) ⟨_, ms_m_0⟩ (b_X9_isWord_0 (Q := ms_lf _ _) (ms_oI_i mm_f11 ?_))
  obtain ⟨_, hc⟩ := hK
  rcases hc with ⟨h1, h2, _⟩ | ⟨h1, h2, h3, _, h5⟩ | ⟨h1, h2, h3, h4, _⟩ | ⟨h1, h2, h3, h4, _⟩
  · rw [h2, tok_e h1]
    refine ms_no (by decide) ?_
    rw [decide_eq_false (show ¬ (301 = 256 + k) by omega)]
    exact ⟨(by first | exact Or.inr rfl | exact Or.inl rfl | exact Or.inl trivial | exact Or.inr trivial | trivial), rfl, rfl⟩
  · rw [h3, tok_w h1 h2]
    refine ms_yes rfl (ms_oL_i mm_f12 ?_)
    have hall : ∀ c, c ∈ byts b (skp b n s) (run ltr b n n (skp b n s + 1)) → ltr c = true := byts_all (fun i hi1 hi2 => by
      by_cases hi : i = skp b n s
      · rw [hi]; exact h2
      · exact run_all n (skp b n s + 1) i (by omega) hi2)
    have key : md_l N 12 = x ↔ wd (byts b (skp b n s) (run ltr b n n (skp b n s + 1))) = 256 + k := by
      rw [wd_at hk, hw]
      unfold wthL at h5
      by_cases hl : (byts b (skp b n s) (run ltr b n n (skp b n s + 1))).length ≤ 10
      · rw [if_pos hl] at h5
        have h6 := wd_hr (w := w) hall hwl
        constructor
        · intro z
          have h7 : ((hr (byts b (skp b n s) (run ltr b n n (skp b n s + 1))).reverse : Nat) : Int) = ((hr w.reverse : Nat) : Int) := by
            rw [← h5, ← hx, z]
          rw [h6.mpr (by omega)]
        · intro z
          have h7 := h6.mp (Option.some.inj z).symm
          apply Int64.toInt_inj.mp
          rw [h5, hx, h7]
      · rw [if_neg hl] at h5
        constructor
        · intro z
          rw [h5] at z
          unfold isL at hx
          rw [← z, show (-1 : Int64).toInt = -1 by decide] at hx
          omega
        · intro z
          rw [← Option.some.inj z] at hl
          exact absurd hw10 hl
    refine ms_ite2 (fun z => ?_) (fun z => ?_)
    · rw [decide_eq_true (key.mp ((lg_cmp_eq _ _).mp z))]
      exact ⟨(by first | exact Or.inr rfl | exact Or.inl rfl | exact Or.inl trivial | exact Or.inr trivial | trivial), rfl, rfl⟩
    · rw [decide_eq_false (fun y => z ((lg_cmp_eq _ _).mpr (key.mpr y)))]
      exact ⟨(by first | exact Or.inr rfl | exact Or.inl rfl | exact Or.inl trivial | exact Or.inr trivial | trivial), rfl, rfl⟩
  · rw [h4, tok_d h1 h2 h3]
    refine ms_no (by decide) ?_
    rw [decide_eq_false (show ¬ (300 = 256 + k) by omega)]
    exact ⟨(by first | exact Or.inr rfl | exact Or.inl rfl | exact Or.inl trivial | exact Or.inr trivial | trivial), rfl, rfl⟩
  · rw [h4, tok_s h1 h2 h3]
    have := hb _ h1
    refine ms_no (by decide) ?_
    rw [decide_eq_false (show ¬ (b (skp b n s) = 256 + k) by omega)]
    exact ⟨(by first | exact Or.inr rfl | exact Or.inl rfl | exact Or.inl trivial | exact Or.inr trivial | trivial), rfl, rfl⟩
theorem n_isSign (hK : TK b n s N) (hb : ∀ k, k < n → b k < 256) (hc : c < 256) (hc1 : ltr c = false) (hc2 : dgt c = false) : ms_Cl (d + 1) 178 [.ref h.length, .int (nI c)] (ms_m h N t) (some (.int (ms_bi (decide ((tok b n s).1 = c))))) (ms_m h N t) := by
  refine m_X9_isSign (Nat.le_refl _) (Nat.le_refl _) ⟨_, ms_m_0⟩ (b_X9_isSign_0 (Q := ms_lf _ _) (ms_oI_i mm_f11 ?_))
  obtain ⟨_, hc⟩ := hK
  rcases hc with ⟨h1, h2, _⟩ | ⟨h1, h2, h3, _, h5⟩ | ⟨h1, h2, h3, h4, _⟩ | ⟨h1, h2, h3, h4, _, h5⟩
  · rw [h2, tok_e h1]
    refine ms_no (by decide) ?_
    rw [decide_eq_false (show ¬ (301 = c) by omega)]
    exact ⟨(by first | exact Or.inr rfl | exact Or.inl rfl | exact Or.inl trivial | exact Or.inr trivial | trivial), rfl, rfl⟩
  · rw [h3, tok_w h1 h2]
    have := (wd_ge (l := byts b (skp b n s) (run ltr b n n (skp b n s + 1)))).1
    refine ms_no (by decide) ?_
    rw [decide_eq_false (show ¬ (wd (byts b (skp b n s) (run ltr b n n (skp b n s + 1))) = c) by omega)]
    exact ⟨(by first | exact Or.inr rfl | exact Or.inl rfl | exact Or.inl trivial | exact Or.inr trivial | trivial), rfl, rfl⟩
  · rw [h4, tok_d h1 h2 h3]
    refine ms_no (by decide) ?_
    rw [decide_eq_false (show ¬ (300 = c) by omega)]
    exact ⟨(by first | exact Or.inr rfl | exact Or.inl rfl | exact Or.inl trivial | exact Or.inr trivial | trivial), rfl, rfl⟩
  · rw [h4, tok_s h1 h2 h3]
    refine ms_yes rfl (ms_oL_i mm_f12 ?_)
    have hcl := isL_dL (n := c) (by omega)
    have key : md_l N 12 = Int32.toInt64 (nI c) ↔ b (skp b n s) = c := by
      constructor
      · intro z
        rw [z] at h5
        have : ((b (skp b n s) : Nat) : Int) = (c : Int) := h5.symm.trans hcl
        omega
      · intro z
        rw [z] at h5
        exact Int64.toInt_inj.mp (h5.trans hcl.symm)
    refine ms_ite2 (fun z => ?_) (fun z => ?_)
    · rw [decide_eq_true (key.mp ((lg_cmp_eq _ _).mp z))]
      exact ⟨(by first | exact Or.inr rfl | exact Or.inl rfl | exact Or.inl trivial | exact Or.inr trivial | trivial), rfl, rfl⟩
    · rw [decide_eq_false (fun y => z ((lg_cmp_eq _ _).mpr (key.mpr y)))]
      exact ⟨(by first | exact Or.inr rfl | exact Or.inl rfl | exact Or.inl trivial | exact Or.inr trivial | trivial), rfl, rfl⟩
theorem TK_at (hK : TK b n s N) : md_i N 9 = nI (tok b n s).2.2.1 ∧ md_i N 10 = nI (tok b n s).2.2.2 := by
  obtain ⟨h0, hc⟩ := hK
  rcases hc with ⟨h1, _, h3⟩ | ⟨h1, h2, _, h4, _⟩ | ⟨h1, h2, h3, _, h5, _⟩ | ⟨h1, h2, h3, _, h5, _⟩
  · rw [tok_e h1]; exact ⟨h0, h3⟩
  · rw [tok_w h1 h2]; exact ⟨h0, h4⟩
  · rw [tok_d h1 h2 h3]; exact ⟨h0, h5⟩
  · rw [tok_s h1 h2 h3]; exact ⟨h0, h5⟩
theorem tok_nx (hs : s ≤ n) : (tok b n s).2.2.2 ≤ n ∧ (tok b n s).2.2.1 ≤ n := by
  have h0 := skp_le (b := b) hs
  by_cases h1 : n ≤ skp b n s
  · rw [tok_e h1]; exact ⟨h0, h0⟩
  · have h1 : skp b n s < n := by omega
    cases h2 : ltr (b (skp b n s)) with
    | true => rw [tok_w h1 h2]; exact ⟨run_le _ _ (by omega), h0⟩
    | false =>
      cases h3 : dgt (b (skp b n s)) with
      | true => rw [tok_d h1 h2 h3]; exact ⟨run_le _ _ (by omega), h0⟩
      | false => rw [tok_s h1 h2 h3]; exact ⟨by show skp b n s + 1 ≤ n; omega, h0⟩
/-- must, when it is so -/
theorem n_mustY (hT : TP M b n) (hK : TK b n s M) (hs : s ≤ n) (h14 : md_i M 14 = 0) : ms_H' (d + 3) 179 [.ref h.length, .int 1] (ms_m h M t) (gN g12 h M t (TK b n (tok b n s).2.2.2)) := by
  refine mx_m (fun a b c => m_X9_must a b ⟨_, ms_m_0⟩ c) gN_l (b_X9_must_0 (ms_oI_i mm_f14 (ms_yes h14 (ms_no (by decide) (ms_oI_i mm_f14 (ms_yes h14 ?_))))))
  exact my_n0 (n_next (d := d) hT (TK_at hK).2 (tok_nx hs).1) (fun N f hx => ⟨N, f, rfl, rfl, hx⟩)
theorem n_mustN (h14 : md_i M 14 = 0) : ms_Cl (d + 1) 179 [.ref h.length, .int 0] (ms_m h M t) none (ms_m h (md_ui (md_ui M 14 1) 13 (md_i M 9)) t) := by
  refine m_X9_must ms_m_l ms_m_t ⟨_, ms_m_0⟩ (b_X9_must_0 (Q := ms_lf _ _) (ms_oI_i mm_f14 (ms_yes h14 (ms_yes rfl ?_))))
  rw [mm_p14]
  refine ⟨(by first | exact Or.inr rfl | exact Or.inl rfl | exact Or.inl trivial | exact Or.inr trivial | trivial), ms_oI_i mm_f9 ?_⟩
  rw [md_i_ne (by decide), mm_p13]
  refine ms_oI_i mm_f14 ?_
  rw [md_i_ne (by decide), md_i_at]
  exact ms_no (by decide) ⟨rfl, rfl⟩
theorem n_mustB (h14 : md_i M 14 = 1) {v : Int32} : ms_Cl (d + 1) 179 [.ref h.length, .int v] (ms_m h M t) none (ms_m h M t) := by
  refine m_X9_must (Nat.le_refl _) (Nat.le_refl _) ⟨_, ms_m_0⟩ (b_X9_must_0 (Q := ms_lf _ _) (ms_oI_i mm_f14 ?_))
  rw [h14]
  refine ms_no (by decide) (ms_oI_i mm_f14 ?_)
  rw [h14]
  exact ms_no (by decide) ⟨rfl, rfl⟩
end Mu
