/-! kind: alike in class and model; written by wip/whole/mdl.py from kindb.txt -/
section Kindb
variable {d : Nat} {g : ms_S}
def k_of (a b : Nat) : Nat := if a < b then b - a else a - b
theorem k_of_9 : ∀ a, a < 10 → ∀ b, b < 10 → (if 0 ≤ nI a - nI b then nI a - nI b else -(nI a - nI b)) = nI (k_of a b) ∧ (if 0 ≤ nI a - nI b then nI a - nI b else 0 - (nI a - nI b)) = nI (k_of a b) := by decide +kernel
theorem k_of_lt {a b : Nat} (ha : a < 10) (hb : b < 10) : k_of a b < 10 := by unfold k_of; split <;> omega
theorem dg_lt {u k : Nat} : dg u k < 10 := Nat.mod_lt _ (by decide)
/-- how many digits are unlike; how far apart the last such are; is one too far -/
def kn (u v : Nat) : Nat → Nat
  | 0 => 0
  | s + 1 => if k_of (dg u s) (dg v s) = 0 then kn u v s else kn u v s + 1
def kg (u v : Nat) : Nat → Nat
  | 0 => 0
  | s + 1 => if k_of (dg u s) (dg v s) = 0 then kg u v s else k_of (dg u s) (dg v s)
def kf (u v : Nat) : Nat → Bool
  | 0 => false
  | s + 1 => kf u v s || (!decide (k_of (dg u s) (dg v s) = 0) && (!decide (k_of (dg u s) (dg v s) = 1) && !decide (k_of (dg u s) (dg v s) = 3)))
theorem kn_le {u v : Nat} (s : Nat) : kn u v s ≤ s := by
  induction s with
  | zero => exact Nat.le_refl _
  | succ s ih => unfold kn; split <;> omega
theorem kg_lt {u v : Nat} (s : Nat) : kg u v s < 10 := by
  induction s with
  | zero => exact Nat.lt_of_sub_eq_succ rfl
  | succ s ih =>
    unfold kg
    split
    · exact ih
    · exact k_of_lt dg_lt dg_lt
theorem kf_0 {u v s : Nat} (h : kn u v s = 0) : kf u v s = false := by
  induction s with
  | zero => rfl
  | succ s ih =>
    unfold kn at h
    split at h
    · rename_i hc
      unfold kf
      rw [ih h, hc]
      rfl
    · omega
theorem kf_1 {u v s : Nat} (h : kn u v s = 1) : kf u v s = !(decide (kg u v s = 1) || decide (kg u v s = 3)) := by
  induction s with
  | zero => cases h
  | succ s ih =>
    unfold kn at h
    split at h
    · rename_i hc
      unfold kf kg
      rw [ih h, if_pos hc, hc]
      simp
    · rename_i hc
      unfold kf kg
      rw [kf_0 (by omega), if_neg hc, decide_eq_false hc]
      simp
def k_near (u v : Nat) : Bool := decide (kn u v 4 = 1) && !kf u v 4
theorem k_nIle0 {o : Nat} (h : o < 10) : (nI o ≤ 0) ↔ o = 0 := by
  rw [show (0 : Int32) = nI 0 from rfl, ms_nle (by omega) (by omega)]
  omega
theorem k_near_c {u v : Nat} : k_near u v = (decide (kn u v 4 = 1) && (decide (kg u v 4 = 1) || decide (kg u v 4 = 3))) := by
  unfold k_near
  by_cases h : kn u v 4 = 1
  · rw [kf_1 h, decide_eq_true h]
    simp
  · rw [decide_eq_false h]
    rfl
theorem c9_isNear {u v : Nat} (hu : u < 2 ^ 31) (hv : v < 2 ^ 31) : ms_Cl (d + 2) 208 [.int (nI u), .int (nI v)] g (some (.int (ms_bi (k_near u v)))) g := by
  refine m_X9_isNear (Nat.le_refl _) (Nat.le_refl _) (b_X9_isNear_0 (Q := ms_lf _ _) ?_)
  suffices H : ∀ r s, s + r = 4 → ms_V cd_X9_isNear none 4 (ms_Cl (d + 1)) (ms_lf (some (.int (ms_bi (k_near u v)))) g) 7 [(0, .int (nI u)), (1, .int (nI v)), (2, .int (nI (kn u v s))), (3, .int (ms_bi (kf u v s))), (4, .int (nI s))] [] g from H 4 0 (by omega)
  intro r
  induction r with
  | zero =>
    intro s hs
    have hk := kn_le (u := u) (v := v) 4
    refine b_X9_isNear_7 (ms_yes ((ms_nle (a := 4) (by decide) (by omega)).mpr (by omega)) ?_)
    rw [show s = 4 by omega]
    unfold k_near
    by_cases h1 : kn u v 4 = 1
    · refine ms_yes (by rw [h1]; rfl) ?_
      cases h2 : kf u v 4
      · exact ms_yes rfl ⟨(by first | exact Or.inr rfl | exact Or.inl rfl | trivial), by rw [decide_eq_true h1]; rfl, rfl⟩
      · exact ms_no (by decide) ⟨(by first | exact Or.inr rfl | exact Or.inl rfl | trivial), by rw [decide_eq_true h1]; rfl, rfl⟩
    · refine ms_no (fun z => ?_) ⟨(by first | exact Or.inr rfl | exact Or.inl rfl | trivial), by rw [decide_eq_false h1]; rfl, rfl⟩
      rw [show (1 : Int32) = nI 1 from rfl, ms_nI_eq (by omega) (by decide)] at z
      exact h1 z
  | succ r ih =>
    intro s hs
    have hk := kn_le (u := u) (v := v) s
    refine b_X9_isNear_7 (ms_no (fun z => ?_) ?_)
    · have := (ms_nle (a := 4) (by decide) (by omega)).mp z
      omega
    refine ms_c1_i (c9_digit hu (by omega)) (ms_c1_i (c9_digit hv (by omega)) ?_)
    have H := ih (s + 1) (by omega)
    have ho := (k_of_9 (dg u s) dg_lt (dg v s) dg_lt).1
    have hl := k_of_lt (a := dg u s) (b := dg v s) dg_lt dg_lt
    have e1 : nI (kn u v s) + 1 = nI (kn u v s + 1) := ms_p1 1
    have e0 : nI (kn u v s) + 0 = nI (kn u v s) := ms_p1 0
    have e2 : nI s + 1 = nI (s + 1) := ms_p1 1
    show ite (0 ≤ nI (dg u s) - nI (dg v s)) _ _
    rw [e1, e0, e2]
    have key : ∀ o : Int32, o = nI (k_of (dg u s) (dg v s)) → (if o ≤ 0 then (if ms_bi (kf u v s) = 0 then (if o ≤ 0 then (ms_V cd_X9_isNear none 4 (ms_Cl (d + 1)) (ms_lf (some (.int (ms_bi (k_near u v)))) g) 7 [(0, .int (nI u)), (1, .int (nI v)), (2, .int (nI (kn u v s))), (3, .int 0), (4, .int (nI (s + 1)))] [] g) else (if o = 1 then (ms_V cd_X9_isNear none 4 (ms_Cl (d + 1)) (ms_lf (some (.int (ms_bi (k_near u v)))) g) 7 [(0, .int (nI u)), (1, .int (nI v)), (2, .int (nI (kn u v s))), (3, .int 0), (4, .int (nI (s + 1)))] [] g) else (if o = 3 then (ms_V cd_X9_isNear none 4 (ms_Cl (d + 1)) (ms_lf (some (.int (ms_bi (k_near u v)))) g) 7 [(0, .int (nI u)), (1, .int (nI v)), (2, .int (nI (kn u v s))), (3, .int 0), (4, .int (nI (s + 1)))] [] g) else (ms_V cd_X9_isNear none 4 (ms_Cl (d + 1)) (ms_lf (some (.int (ms_bi (k_near u v)))) g) 7 [(0, .int (nI u)), (1, .int (nI v)), (2, .int (nI (kn u v s))), (3, .int 1), (4, .int (nI (s + 1)))] [] g)))) else (ms_V cd_X9_isNear none 4 (ms_Cl (d + 1)) (ms_lf (some (.int (ms_bi (k_near u v)))) g) 7 [(0, .int (nI u)), (1, .int (nI v)), (2, .int (nI (kn u v s))), (3, .int 1), (4, .int (nI (s + 1)))] [] g)) else (if ms_bi (kf u v s) = 0 then (if o ≤ 0 then (ms_V cd_X9_isNear none 4 (ms_Cl (d + 1)) (ms_lf (some (.int (ms_bi (k_near u v)))) g) 7 [(0, .int (nI u)), (1, .int (nI v)), (2, .int (nI (kn u v s + 1))), (3, .int 0), (4, .int (nI (s + 1)))] [] g) else (if o = 1 then (ms_V cd_X9_isNear none 4 (ms_Cl (d + 1)) (ms_lf (some (.int (ms_bi (k_near u v)))) g) 7 [(0, .int (nI u)), (1, .int (nI v)), (2, .int (nI (kn u v s + 1))), (3, .int 0), (4, .int (nI (s + 1)))] [] g) else (if o = 3 then (ms_V cd_X9_isNear none 4 (ms_Cl (d + 1)) (ms_lf (some (.int (ms_bi (k_near u v)))) g) 7 [(0, .int (nI u)), (1, .int (nI v)), (2, .int (nI (kn u v s + 1))), (3, .int 0), (4, .int (nI (s + 1)))] [] g) else (ms_V cd_X9_isNear none 4 (ms_Cl (d + 1)) (ms_lf (some (.int (ms_bi (k_near u v)))) g) 7 [(0, .int (nI u)), (1, .int (nI v)), (2, .int (nI (kn u v s + 1))), (3, .int 1), (4, .int (nI (s + 1)))] [] g)))) else (ms_V cd_X9_isNear none 4 (ms_Cl (d + 1)) (ms_lf (some (.int (ms_bi (k_near u v)))) g) 7 [(0, .int (nI u)), (1, .int (nI v)), (2, .int (nI (kn u v s + 1))), (3, .int 1), (4, .int (nI (s + 1)))] [] g))) := by
      intro o eo
      unfold kn kf at H
      subst eo
      have q1 : (nI (k_of (dg u s) (dg v s)) = 1) ↔ k_of (dg u s) (dg v s) = 1 := Iff.of_eq (ms_nI_eq (m := 1) (by omega) (by decide))
      have q3 : (nI (k_of (dg u s) (dg v s)) = 3) ↔ k_of (dg u s) (dg v s) = 3 := Iff.of_eq (ms_nI_eq (m := 3) (by omega) (by decide))
      by_cases h0 : k_of (dg u s) (dg v s) = 0
      · have h0' := (k_nIle0 hl).mpr h0
        rw [if_pos h0, decide_eq_true h0] at H
        rw [if_pos h0']
        refine ms_ifT (fun h2 => ?_) (fun h2 => ?_) <;> rw [h2] at H
        · exact ms_yes h0' H
        · exact H
      · have h0' := mt (k_nIle0 hl).mp h0
        rw [if_neg h0, decide_eq_false h0] at H
        rw [if_neg h0']
        refine ms_ifT (fun h2 => ?_) (fun h2 => ?_) <;> rw [h2] at H
        · refine ms_no h0' ?_
          by_cases h3 : k_of (dg u s) (dg v s) = 1
          · rw [decide_eq_true h3] at H
            exact ms_yes (q1.mpr h3) H
          · rw [decide_eq_false h3] at H
            refine ms_no (mt q1.mp h3) ?_
            by_cases h4 : k_of (dg u s) (dg v s) = 3
            · rw [decide_eq_true h4] at H
              exact ms_yes (q3.mpr h4) H
            · rw [decide_eq_false h4] at H
              exact ms_no (mt q3.mp h4) H
        · exact H
    refine ms_ite2 (fun h0 => ?_) (fun h0 => ?_)
    · rw [if_pos h0] at ho
      exact key _ ho
    · rw [if_neg h0] at ho
      exact key _ ho
def k_kind (u v : Nat) : Int32 := if u = v then 0 else if k_near u v then 1 else if md_sw u (nI v) 3 then 2 else if md_dr u (nI v) 4 then 3 else 4
theorem c9_kindOf {u v : Nat} (hu : u < 2 ^ 31) (hv : v < 2 ^ 31) : ms_Cl (d + 3) 211 [.int (nI u), .int (nI v)] g (some (.int (k_kind u v))) g := by
  refine m_X9_kindOf (Nat.le_refl _) (Nat.le_refl _) (b_X9_kindOf_0 (Q := ms_lf _ _) ?_)
  unfold k_kind
  by_cases h1 : u = v
  · rw [if_pos h1]
    exact ms_yes (by rw [h1]) ⟨rfl, rfl⟩
  rw [if_neg h1]
  refine ms_no (mt (ms_nI_eq hu hv).mp h1) (ms_c1_i (c9_isNear hu hv) (ms_ifT (fun h2 => ?_) (fun h2 => ?_))) <;> rw [h2]
  · refine ms_c1_i (c9_isSwap hu) (ms_ifT (fun h3 => ?_) (fun h3 => ?_)) <;> rw [h3]
    · refine ms_c1_i (c9_isDrop hu) (ms_ifT (fun h4 => ?_) (fun h4 => ?_)) <;> rw [h4]
      · exact ⟨rfl, rfl⟩
      · exact ⟨rfl, rfl⟩
    · exact ⟨rfl, rfl⟩
  · exact ⟨rfl, rfl⟩
theorem c8_isNear {u v : Nat} (hu : u < 2 ^ 31) (hv : v < 2 ^ 31) : ms_Cl (d + 1) 137 [.int (nI u), .int (nI v)] g (some (.int (ms_bi (k_near u v)))) g := by
  refine m_X8_isNear (Nat.le_refl _) (Nat.le_refl _) (b_X8_isNear_0 (Q := ms_lf _ _) ?_)
  suffices H : ∀ r s, s + r = 4 → ms_V cd_X8_isNear none 4 (ms_Cl d) (ms_lf (some (.int (ms_bi (k_near u v)))) g) 7 [(0, .int (nI u)), (1, .int (nI v)), (2, .int (nI (kn u v s))), (3, .int (nI (kg u v s))), (4, .int (nI (10 ^ s)))] [] g from H 4 0 (by omega)
  intro r
  induction r with
  | zero =>
    intro s hs
    have hk := kn_le (u := u) (v := v) 4
    have hg := kg_lt (u := u) (v := v) 4
    rw [show s = 4 by omega]
    refine b_X8_isNear_7 (ms_yes (by decide) ?_)
    rw [k_near_c]
    by_cases h1 : kn u v 4 = 1
    · refine ms_yes (by rw [h1]; rfl) ?_
      rw [decide_eq_true h1]
      by_cases h2 : kg u v 4 = 1
      · exact ms_yes (by rw [h2]; rfl) ⟨(by first | exact Or.inr rfl | exact Or.inl rfl | trivial), by rw [decide_eq_true h2]; rfl, rfl⟩
      refine ms_no (fun z => h2 ((ms_nI_eq (m := 1) (by omega) (by decide)).mp z)) ?_
      by_cases h3 : kg u v 4 = 3
      · exact ms_yes (by rw [h3]; rfl) ⟨(by first | exact Or.inr rfl | exact Or.inl rfl | trivial), by rw [decide_eq_true h3, Bool.or_true]; rfl, rfl⟩
      · exact ms_no (fun z => h3 ((ms_nI_eq (m := 3) (by omega) (by decide)).mp z)) ⟨(by first | exact Or.inr rfl | exact Or.inl rfl | trivial), by rw [decide_eq_false h2, decide_eq_false h3]; rfl, rfl⟩
    · refine ms_no (fun z => h1 ((ms_nI_eq (m := 1) (by omega) (by decide)).mp z)) ⟨(by first | exact Or.inr rfl | exact Or.inl rfl | trivial), by rw [decide_eq_false h1]; rfl, rfl⟩
  | succ r ih =>
    intro s hs
    have hk := kn_le (u := u) (v := v) s
    have hp : 10 ^ s ≤ 1000 := Nat.le_trans (Nat.pow_le_pow_right (by decide) (show s ≤ 3 by omega)) (by decide)
    have hp0 : 0 < 10 ^ s := Nat.pow_pos (by decide)
    refine b_X8_isNear_7 (ms_no (fun z => ?_) ⟨ten_ne (by omega), by decide, ten_ne (by omega), by decide, ?_⟩)
    · have := (ms_nlt (a := 1000) (by decide) (by omega)).mp z
      omega
    have hlu : u / 10 ^ s ≤ u := Nat.div_le_self _ _
    have hlv : v / 10 ^ s ≤ v := Nat.div_le_self _ _
    rw [pk_div hu hp0 (by omega), pk_div hv hp0 (by omega), show (10 : Int32) = nI 10 from rfl, pk_rem (by omega) (by decide) (by decide), pk_rem (by omega) (by decide) (by decide), nI_mul, ← Nat.pow_succ, show nI (kn u v s) + 1 = nI (kn u v s + 1) from ms_p1 1]
    have H := ih (s + 1) (by omega)
    have ho := (k_of_9 (dg u s) dg_lt (dg v s) dg_lt).2
    have hl := k_of_lt (a := dg u s) (b := dg v s) dg_lt dg_lt
    unfold dg at ho
    rw [ho]
    unfold kn kg dg at H
    unfold dg at hl
    by_cases h0 : k_of (u / 10 ^ s % 10) (v / 10 ^ s % 10) = 0
    · rw [if_pos h0, if_pos h0] at H
      exact ms_yes (by rw [h0]; rfl) H
    · rw [if_neg h0, if_neg h0] at H
      exact ms_no (fun z => h0 ((ms_nI_eq (m := 0) (by omega) (by decide)).mp z)) H
end Kindb
section Kindc
variable {d : Nat} {g : ms_S}
theorem k_ring (u l h p : Int32) : (u + (((l - h) * p) * 10)) + ((h - l) * p) = ((((u - (l * p)) - (h * (p * 10))) + (h * p)) + (l * (p * 10))) := by grind
theorem k_ring2 (u l p : Int32) : (u + (((l - l) * p) * 10)) + ((l - l) * p) = u := by grind
theorem c8_isSwap {u : Nat} {v : Int32} (hu : u < 2 ^ 31) (hn : nI u ≠ v) : ms_Cl (d + 1) 138 [.int (nI u), .int v] g (some (.int (ms_bi (md_sw u v 3)))) g := by
  refine m_X8_isSwap (Nat.le_refl _) (Nat.le_refl _) (b_X8_isSwap_0 (Q := ms_lf _ _) ?_)
  suffices H : ∀ r s, s + r = 3 → md_sw u v s = false → ms_V cd_X8_isSwap none 4 (ms_Cl d) (ms_lf (some (.int (ms_bi (md_sw u v 3)))) g) 2 [(0, .int (nI u)), (1, .int v), (2, .int (nI (10 ^ s)))] [] g from H 3 0 (by omega) rfl
  intro r
  induction r with
  | zero =>
    intro s hs hf
    rw [show s = 3 by omega] at hf ⊢
    exact b_X8_isSwap_2 (ms_yes (by decide) ⟨(by first | exact Or.inr rfl | exact Or.inl rfl | trivial), by rw [hf]; rfl, rfl⟩)
  | succ r ih =>
    intro s hs hf
    have hp : 10 ^ s ≤ 100 := Nat.le_trans (Nat.pow_le_pow_right (by decide) (show s ≤ 2 by omega)) (by decide)
    have hp0 : 0 < 10 ^ s := Nat.pow_pos (by decide)
    refine b_X8_isSwap_2 (ms_no (fun z => ?_) ⟨ten_ne (by omega), by decide, ten_ne (by omega), by decide, by decide, ?_⟩)
    · have := (ms_nlt (a := 100) (by decide) (by omega)).mp z
      omega
    have hlu : u / 10 ^ s ≤ u := Nat.div_le_self _ _
    have hlv : u / 10 ^ s / 10 ≤ u := Nat.le_trans (Nat.div_le_self _ _) hlu
    have e10 : nI (10 ^ (s + 1)) = nI (10 ^ s) * 10 := (nI_mul _ _).symm
    have H := ih (s + 1) (by omega)
    rw [show md_sw u v (s + 1) = (md_sw u v s || sw_at u v s) from rfl, hf, Bool.false_or] at H
    rw [e10] at H
    have hsw : sw_at u v s = decide ((nI u + (((nI (dg u s) - nI (dg u (s + 1))) * nI (10 ^ s)) * 10)) + ((nI (dg u (s + 1)) - nI (dg u s)) * nI (10 ^ s)) = v) := by
      unfold sw_at
      rw [e10, ← k_ring]
      by_cases h1 : nI (dg u s) = nI (dg u (s + 1))
      · rw [decide_eq_true h1, h1, k_ring2, decide_eq_false hn]
        rfl
      · rw [decide_eq_false h1]
        exact decide_eq_decide.mpr eq_comm
    have e3 : (nI u / nI (10 ^ s)) - (nI u / nI (10 ^ s)) / 10 * 10 = nI (dg u s) := by
      rw [pk_div hu hp0 (by omega), show (10 : Int32) = nI 10 from rfl, pk_rem (by omega) (by decide) (by decide)]
      rfl
    have e4 : ((nI u / nI (10 ^ s)) / 10) - ((nI u / nI (10 ^ s)) / 10) / 10 * 10 = nI (dg u (s + 1)) := by
      rw [pk_div hu hp0 (by omega), show (10 : Int32) = nI 10 from rfl, pk_div (by omega) (by decide) (by decide), pk_rem (by omega) (by decide) (by decide)]
      unfold dg
      rw [Nat.div_div_eq_div_mul, ← Nat.pow_succ]
    rw [e3, e4]
    by_cases h1 : (nI u + (((nI (dg u s) - nI (dg u (s + 1))) * nI (10 ^ s)) * 10)) + ((nI (dg u (s + 1)) - nI (dg u s)) * nI (10 ^ s)) = v
    · refine ms_yes h1 ⟨(by first | exact Or.inr rfl | exact Or.inl rfl | trivial), ?_, rfl⟩
      rw [decide_eq_true h1] at hsw
      rw [show md_sw u v 3 = true by
        have : s = 0 ∨ s = 1 ∨ s = 2 := by omega
        rcases this with z | z | z <;> subst z <;> simp only [md_sw, hsw, Bool.or_true, Bool.true_or]]
      rfl
    · refine ms_no h1 (H ?_)
      rw [hsw, decide_eq_false h1]
theorem c8_isDrop {u : Nat} {v : Int32} (hu : u < 2 ^ 31) : ms_Cl (d + 1) 139 [.int (nI u), .int v] g (some (.int (ms_bi (md_dr u v 4)))) g := by
  refine m_X8_isDrop (Nat.le_refl _) (Nat.le_refl _) (b_X8_isDrop_0 (Q := ms_lf _ _) ?_)
  by_cases h10 : nI u < 10
  · refine ms_no (Int32.not_le.mpr h10) ⟨(by first | exact Or.inr rfl | exact Or.inl rfl | trivial), ?_, rfl⟩
    rw [show md_dr u v 4 = false by
      simp only [md_dr, dr_at, decide_eq_true h10]
      rfl]
    rfl
  refine ms_yes (Int32.not_lt.mp h10) ?_
  suffices H : ∀ r s, s + r = 4 → md_dr u v s = false → ms_V cd_X8_isDrop none 4 (ms_Cl d) (ms_lf (some (.int (ms_bi (md_dr u v 4)))) g) 10 [(0, .int (nI u)), (1, .int v), (2, .int (nI (10 ^ s)))] [] g from H 4 0 (by omega) rfl
  intro r
  induction r with
  | zero =>
    intro s hs hf
    rw [show s = 4 by omega] at hf ⊢
    exact b_X8_isDrop_10 (ms_yes (by decide) ⟨(by first | exact Or.inr rfl | exact Or.inl rfl | trivial), by rw [hf]; rfl, rfl⟩)
  | succ r ih =>
    intro s hs hf
    have hp : 10 ^ s ≤ 1000 := Nat.le_trans (Nat.pow_le_pow_right (by decide) (show s ≤ 3 by omega)) (by decide)
    have hp0 : 0 < 10 ^ s := Nat.pow_pos (by decide)
    refine b_X8_isDrop_10 (ms_no (fun z => ?_) ?_)
    · have := (ms_nlt (a := 1000) (by decide) (by omega)).mp z
      omega
    have e10 : nI (10 ^ (s + 1)) = nI (10 ^ s) * 10 := (nI_mul _ _).symm
    by_cases h0 : nI u < nI (10 ^ s)
    · refine ms_yes h0 ⟨(by first | exact Or.inr rfl | exact Or.inl rfl | trivial), ?_, rfl⟩
      have hbig : ∀ k, s ≤ k → k < 5 → dr_at u v k = false := by
        intro k hk h5
        unfold dr_at
        have : nI u < nI (10 ^ k) := by
          have hk4 : 10 ^ k ≤ 10000 := Nat.le_trans (Nat.pow_le_pow_right (by decide) (show k ≤ 4 by omega)) (by decide)
          refine (ms_nlt hu (by omega)).mpr ?_
          have := (ms_nlt hu (by omega)).mp h0
          exact Nat.lt_of_lt_of_le this (Nat.pow_le_pow_right (by decide) hk)
        rw [decide_eq_true this]
        simp
      rw [show md_dr u v 4 = false by
        have : s = 0 ∨ s = 1 ∨ s = 2 ∨ s = 3 := by omega
        rcases this with z | z | z | z <;> subst z <;> simp only [md_dr, Bool.false_or] at hf ⊢ <;> simp only [hbig 0, hbig 1, hbig 2, hbig 3, Nat.le_refl, Nat.zero_le, show (1:Nat) ≤ 2 by decide, show (1:Nat) ≤ 3 by decide, show (2:Nat) ≤ 3 by decide, show (0:Nat) < 5 by decide, show (1:Nat) < 5 by decide, show (2:Nat) < 5 by decide, show (3:Nat) < 5 by decide, hf, Bool.or_false, Bool.false_or]]
      rfl
    refine ms_no h0 ⟨ten_ne (by omega), by decide, ten_ne (by omega), ?_⟩
    have H := ih (s + 1) (by omega)
    rw [show md_dr u v (s + 1) = (md_dr u v s || dr_at u v s) from rfl, hf, Bool.false_or, e10] at H
    have hlu : u / 10 ^ s ≤ u := Nat.div_le_self _ _
    have hd : dr_at u v s = decide ((((nI u / nI (10 ^ s)) / 10) * nI (10 ^ s)) + (nI u - nI u / nI (10 ^ s) * nI (10 ^ s)) = v) := by
      unfold dr_at
      rw [decide_eq_false h10, decide_eq_false h0, pk_div hu hp0 (by omega), pk_div hu (Nat.pow_pos (by decide)) (Nat.lt_of_le_of_lt (Nat.pow_le_pow_right (by decide) (show s + 1 ≤ 4 by omega)) (by decide)), show (10 : Int32) = nI 10 from rfl, pk_div (by omega) (by decide) (by decide), Nat.div_div_eq_div_mul, ← Nat.pow_succ]
      exact decide_eq_decide.mpr eq_comm
    by_cases h1 : (((nI u / nI (10 ^ s)) / 10) * nI (10 ^ s)) + (nI u - nI u / nI (10 ^ s) * nI (10 ^ s)) = v
    · refine ms_yes h1 ⟨(by first | exact Or.inr rfl | exact Or.inl rfl | trivial), ?_, rfl⟩
      rw [decide_eq_true h1] at hd
      rw [show md_dr u v 4 = true by
        have : s = 0 ∨ s = 1 ∨ s = 2 ∨ s = 3 := by omega
        rcases this with z | z | z | z <;> subst z <;> simp only [md_dr, hd, Bool.or_true, Bool.true_or]]
      rfl
    · refine ms_no h1 (H ?_)
      rw [hd, decide_eq_false h1]
theorem c8_slipKind {u v : Nat} (hu : u < 2 ^ 31) (hv : v < 2 ^ 31) : ms_Cl (d + 2) 136 [.int (nI u), .int (nI v)] g (some (.int (k_kind u v))) g := by
  refine m_X8_slipKind (Nat.le_refl _) (Nat.le_refl _) (b_X8_slipKind_0 (Q := ms_lf _ _) ?_)
  unfold k_kind
  by_cases h1 : u = v
  · rw [if_pos h1]
    exact ms_yes (by rw [h1]) ⟨rfl, rfl⟩
  rw [if_neg h1]
  have hn := mt (ms_nI_eq hu hv).mp h1
  refine ms_no hn (ms_c1_i (c8_isNear hu hv) (ms_ifT (fun h2 => ?_) (fun h2 => ?_))) <;> rw [h2]
  · refine ms_c1_i (c8_isSwap hu hn) (ms_ifT (fun h3 => ?_) (fun h3 => ?_)) <;> rw [h3]
    · refine ms_c1_i (c8_isDrop hu) (ms_ifT (fun h4 => ?_) (fun h4 => ?_)) <;> rw [h4]
      · exact ⟨rfl, rfl⟩
      · exact ⟨rfl, rfl⟩
    · exact ⟨rfl, rfl⟩
  · exact ⟨rfl, rfl⟩
end Kindc
