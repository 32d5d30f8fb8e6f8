/-! CONTRACTS: the model's constructor and small methods: written by wip/whole/mdl.py from mdl.txt -/
theorem ms_oR_e {x : Nat} {K : Nat → Prop} : ms_oR (some x) K = K x := rfl
theorem ms_oI_e {x : Int32} {K : Int32 → Prop} : ms_oI (some x) K = K x := rfl
theorem ms_oL_e {x : Int64} {K : Int64 → Prop} : ms_oL (some x) K = K x := rfl
theorem ms_c0_i {R : Option Value → ms_S → Prop} {k : ms_S → Prop} {g' : ms_S} (h : R none g') (hk : k g') : ms_c0 R k := ⟨g', h, hk⟩
theorem ms_c1_i {R : Option Value → ms_S → Prop} {k : Int32 → ms_S → Prop} {x : Int32} {g' : ms_S} (h : R (some (.int x)) g') (hk : k x g') : ms_c1 R k := ⟨x, g', h, hk⟩
theorem ms_c2_i {R : Option Value → ms_S → Prop} {k : Int64 → ms_S → Prop} {x : Int64} {g' : ms_S} (h : R (some (.long x)) g') (hk : k x g') : ms_c2 R k := ⟨x, g', h, hk⟩
theorem ms_ifT {b : Bool} {A B : Prop} (hf : b = false → A) (ht : b = true → B) : @ite _ (ms_bi b = 0) (instDecidableEqInt32 _ _) A B := by
  cases b
  · exact ms_yes rfl (hf rfl)
  · exact ms_no (by decide) (ht rfl)
theorem ms_lt (h : ms_S) {a b : ms_S} (k : ms_tot a ≤ ms_tot b) : ms_tot (h ++ a) ≤ ms_tot (h ++ b) := ms_ltot k
section Mdl
variable {d : Nat} {h t g : ms_S} {M N : md_T}
theorem ms_m_l : (ms_m h M t).length ≤ (ms_m h N t).length := by rw [ms_m_len, ms_m_len]; exact Nat.le_refl _
theorem ms_m_t : ms_tot (ms_m h M t) ≤ ms_tot (ms_m h N t) := by
  unfold ms_m
  rw [ms_tot_app2, ms_tot_app2, ms_tot_app2, ms_tot_app2]
  exact Nat.le_refl _
theorem c9_in {v lo hi : Int64} : ms_Cl (d + 1) 141 [.long v, .long lo, .long hi] g (some (.int (ms_bi (decide (lo ≤ v) && decide (v ≤ hi))))) g := by
  refine m_X9_in (Nat.le_refl _) (Nat.le_refl _) (b_X9_in_0 ?_)
  by_cases h1 : lo ≤ v
  · refine ms_no (fun e => absurd ((lg_cmp_ge v lo).mpr h1) (Int32.not_le.mpr e)) ?_
    by_cases h2 : v ≤ hi
    · refine ms_no (fun e => absurd ((lg_cmp_le v hi).mpr h2) (Int32.not_le.mpr e)) ⟨Or.inr rfl, ?_, rfl⟩
      rw [decide_eq_true h1, decide_eq_true h2]
      rfl
    · refine ms_yes (Int32.not_le.mp fun e => h2 ((lg_cmp_le v hi).mp e)) ⟨Or.inl rfl, ?_, rfl⟩
      rw [decide_eq_true h1, decide_eq_false h2]
      rfl
  · refine ms_yes (Int32.not_le.mp fun e => h1 ((lg_cmp_ge v lo).mp e)) ⟨Or.inl rfl, ?_, rfl⟩
    rw [decide_eq_false h1]
    rfl
theorem ms_i64 {a b : Int32} : (Int32.toInt64 a ≤ Int32.toInt64 b) ↔ a ≤ b := by
  rw [Int64.le_iff_toInt_le, Int32.le_iff_toInt_le, Int32.toInt_toInt64, Int32.toInt_toInt64]
def md_in (v lo hi : Int32) : Bool := decide (lo ≤ v) && decide (v ≤ hi)
theorem c9_inI {v : Int32} (lo hi : Int32) {a b : Int64} (ha : Int32.toInt64 lo = a) (hb : Int32.toInt64 hi = b) : ms_Cl (d + 1) 141 [.long (Int32.toInt64 v), .long a, .long b] g (some (.int (ms_bi (md_in v lo hi)))) g := by
  have := c9_in (d := d) (g := g) (v := Int32.toInt64 v) (lo := a) (hi := b)
  rw [← ha, ← hb] at this ⊢
  rw [decide_eq_decide.mpr ms_i64, decide_eq_decide.mpr ms_i64] at this
  exact this
theorem c9_isDay {v : Int32} : ms_Cl (d + 2) 143 [.int v] g (some (.int (ms_bi (md_in v 0 99)))) g := by
  refine m_X9_isDay (Nat.le_refl _) (Nat.le_refl _) (b_X9_isDay_0 (ms_c1_i (c9_inI 0 99 (by decide) (by decide)) ⟨ms_bi_01 _, rfl, rfl⟩))
def md_tell (M : md_T) (v : Int32) : md_T := if 0 ≤ v then md_ui M 1 0 else md_ua (md_ui M 1 v) 2 (-v).toNatClampNeg (md_a M 2 (-v).toNatClampNeg + 1)
theorem c9_tell {v : Int32} (hv : 0 ≤ v ∨ vp_in (-v) 7) : ms_Cl (d + 1) 142 [.ref h.length, .int v] (ms_m h M t) (some (.int v)) (ms_m h (md_tell M v) t) := by
  refine m_X9_tell ms_m_l ms_m_t ⟨_, ms_m_0⟩ (b_X9_tell_0 ?_)
  simp only [ms_oR_e, ms_oI_e, ms_oL_e, mm_f1, mm_p1, mm_f2, mm_r2, mm_w2]
  unfold md_tell
  by_cases h0 : 0 ≤ v
  · exact ms_yes h0 (ms_yes h0 ⟨trivial, by rw [if_pos h0]⟩)
  · have h1 := hv.resolve_left h0
    exact ms_no h0 (ms_no h0 ⟨h1, h1, trivial, by rw [if_neg h0]; rfl⟩)
theorem c9_thingAt {v : Int32} : ms_Cl (d + 1) 149 [.int v] g (some (.int (10 + 6 * v))) g := m_X9_thingAt (Nat.le_refl _) (Nat.le_refl _) (b_X9_thingAt_0 ⟨rfl, rfl⟩)
theorem c9_paperAt {v : Int32} : ms_Cl (d + 1) 150 [.int v] g (some (.int (58 + 3 * v))) g := m_X9_paperAt (Nat.le_refl _) (Nat.le_refl _) (b_X9_paperAt_0 ⟨rfl, rfl⟩)
theorem c9_entryAt {v : Int32} : ms_Cl (d + 1) 151 [.int v] g (some (.int (106 + 7 * v))) g := m_X9_entryAt (Nat.le_refl _) (Nat.le_refl _) (b_X9_entryAt_0 ⟨rfl, rfl⟩)
def md_fields (a b c e w : Int32) : Bool := md_in a 0 9999 && (md_in b 0 9999 && (md_in c 0 9999 && (md_in e 0 9999 && md_in w 0 9)))
theorem c9_areFields {a b c e w : Int32} : ms_Cl (d + 2) 157 [.int a, .int b, .int c, .int e, .int w] g (some (.int (ms_bi (md_fields a b c e w)))) g := by
  unfold md_fields
  refine m_X9_areFields (Nat.le_refl _) (Nat.le_refl _) (b_X9_areFields_0 (ms_c1_i (c9_inI 0 9999 (by decide) (by decide)) (ms_ifT (fun h1 => ?_) (fun h1 => ?_)))) <;> rw [h1]
  · exact ⟨Or.inl rfl, rfl, rfl⟩
  refine ms_c1_i (c9_inI 0 9999 (by decide) (by decide)) (ms_ifT (fun h1 => ?_) (fun h1 => ?_)) <;> rw [h1]
  · exact ⟨Or.inl rfl, rfl, rfl⟩
  refine ms_c1_i (c9_inI 0 9999 (by decide) (by decide)) (ms_ifT (fun h1 => ?_) (fun h1 => ?_)) <;> rw [h1]
  · exact ⟨Or.inl rfl, rfl, rfl⟩
  refine ms_c1_i (c9_inI 0 9999 (by decide) (by decide)) (ms_ifT (fun h1 => ?_) (fun h1 => ?_)) <;> rw [h1]
  · exact ⟨Or.inl rfl, rfl, rfl⟩
  refine ms_c1_i (c9_inI 0 9 (by decide) (by decide)) (ms_ifT (fun h1 => ?_) (fun h1 => ?_)) <;> rw [h1]
  · exact ⟨Or.inl rfl, rfl, rfl⟩
  · exact ⟨Or.inr rfl, rfl, rfl⟩
end Mdl
