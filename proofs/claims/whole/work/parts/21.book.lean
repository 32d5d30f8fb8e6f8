/-! CONTRACTS: Book -/
/-- a book: how many things, papers, entries, texts; their rows -/
abbrev bk_T : Type := Nat × Nat × Nat × Nat × (Nat → Int32) × (Nat → Int32) × (Nat → Int32) × (Nat → Int32) × (Nat → Option Nat)
abbrev bk_tc (B : bk_T) : Nat := B.1
abbrev bk_pc (B : bk_T) : Nat := B.2.1
abbrev bk_ec (B : bk_T) : Nat := B.2.2.1
abbrev bk_xc (B : bk_T) : Nat := B.2.2.2.1
abbrev bk_th (B : bk_T) : Nat → Int32 := B.2.2.2.2.1
abbrev bk_pa (B : bk_T) : Nat → Int32 := B.2.2.2.2.2.1
abbrev bk_li (B : bk_T) : Nat → Int32 := B.2.2.2.2.2.2.1
abbrev bk_en (B : bk_T) : Nat → Int32 := B.2.2.2.2.2.2.2.1
abbrev bk_tx (B : bk_T) : Nat → Option Nat := B.2.2.2.2.2.2.2.2
def bk_o (b : Nat) (B : bk_T) : List Value := [.ref (b + 1), .ref (b + 2), .ref (b + 3), .ref (b + 4), .ref (b + 5), .int (nI (bk_tc B)), .int (nI (bk_pc B)), .int (nI (bk_ec B)), .int (nI (bk_xc B))]
def bk (g : ms_S) (b : Nat) (B : bk_T) : Prop := g[b]? = some (.inr (0, bk_o b B)) ∧ g[b + 1]? = some (.inl (0, 48, .inl (bk_th B))) ∧ g[b + 2]? = some (.inl (0, 64, .inl (bk_pa B))) ∧ g[b + 3]? = some (.inl (0, 192, .inl (bk_li B))) ∧ g[b + 4]? = some (.inl (0, 960, .inl (bk_en B))) ∧ g[b + 5]? = some (.inl (3, 20, .inr (.inr (bk_tx B)))) ∧ bk_tc B ≤ 8 ∧ bk_pc B ≤ 16 ∧ bk_ec B ≤ 120 ∧ bk_xc B ≤ 20
section Bk
variable {d b : Nat} {g : ms_S} {B : bk_T} {p q w : Int32}
theorem bk.rc (h : bk g b B) : ∃ fs : List Value, g[b]? = some (.inr (0, fs)) := ⟨_, h.1⟩
theorem c_hasThing (h : bk g b B) : ms_Cl (d + 1) 3 [.ref b, .int p] g (some (.int (ms_bi (ms_ix (bk_tc B) p)))) g := by
  have hc : bk_tc B ≤ 8 := h.2.2.2.2.2.2.1
  refine m_X0_hasThing (Nat.le_refl _) (Nat.le_refl _) h.rc (b_X0_hasThing_0 ?_)
  by_cases h0 : p < 0
  · refine ms_yes h0 ?_; rw [ms_ix_lt0 h0]; exact ⟨Or.inl rfl, rfl, rfl⟩
  · refine ms_no h0 ?_
    refine ms_oI_i (ms_fldI_of h.1 rfl) ?_
    by_cases h1 : nI (bk_tc B) ≤ p
    · refine ms_yes h1 ?_; rw [ms_ix_ge (by omega) h1]; exact ⟨Or.inl rfl, rfl, rfl⟩
    · refine ms_no h1 ?_; refine ms_no (fun h2 => h1 (ms_nI_le (n := 8) hc (by decide) h2)) ?_; rw [ms_ix_in (by omega) h0 h1]
      exact ⟨Or.inr rfl, rfl, rfl⟩
theorem c_hasPaper (h : bk g b B) : ms_Cl (d + 1) 4 [.ref b, .int p] g (some (.int (ms_bi (ms_ix (bk_pc B) p)))) g := by
  have hc : bk_pc B ≤ 16 := h.2.2.2.2.2.2.2.1
  refine m_X0_hasPaper (Nat.le_refl _) (Nat.le_refl _) h.rc (b_X0_hasPaper_0 ?_)
  by_cases h0 : p < 0
  · refine ms_yes h0 ?_; rw [ms_ix_lt0 h0]; exact ⟨Or.inl rfl, rfl, rfl⟩
  · refine ms_no h0 ?_
    refine ms_oI_i (ms_fldI_of h.1 rfl) ?_
    by_cases h1 : nI (bk_pc B) ≤ p
    · refine ms_yes h1 ?_; rw [ms_ix_ge (by omega) h1]; exact ⟨Or.inl rfl, rfl, rfl⟩
    · refine ms_no h1 ?_; refine ms_no (fun h2 => h1 (ms_nI_le (n := 16) hc (by decide) h2)) ?_; rw [ms_ix_in (by omega) h0 h1]
      exact ⟨Or.inr rfl, rfl, rfl⟩
theorem c_hasEntry (h : bk g b B) : ms_Cl (d + 1) 5 [.ref b, .int p] g (some (.int (ms_bi (ms_ix (bk_ec B) p)))) g := by
  have hc : bk_ec B ≤ 120 := h.2.2.2.2.2.2.2.2.1
  refine m_X0_hasEntry (Nat.le_refl _) (Nat.le_refl _) h.rc (b_X0_hasEntry_0 ?_)
  by_cases h0 : p < 0
  · refine ms_yes h0 ?_; rw [ms_ix_lt0 h0]; exact ⟨Or.inl rfl, rfl, rfl⟩
  · refine ms_no h0 ?_
    refine ms_oI_i (ms_fldI_of h.1 rfl) ?_
    by_cases h1 : nI (bk_ec B) ≤ p
    · refine ms_yes h1 ?_; rw [ms_ix_ge (by omega) h1]; exact ⟨Or.inl rfl, rfl, rfl⟩
    · refine ms_no h1 ?_; refine ms_no (fun h2 => h1 (ms_nI_le (n := 120) hc (by decide) h2)) ?_; rw [ms_ix_in (by omega) h0 h1]
      exact ⟨Or.inr rfl, rfl, rfl⟩
/-- what a row of a table has in a place, -1 beyond -/
def bk_of (n m : Nat) (f : Nat → Int32) (p w : Int32) : Int32 := bif ms_ix n p && ms_ix m w then f (p.toNatClampNeg * m + w.toNatClampNeg) else -1
theorem bk_ofT {n m : Nat} {f : Nat → Int32} (h1 : ms_ix n p = true) (h2 : ms_ix m w = true) : bk_of n m f p w = f (p.toNatClampNeg * m + w.toNatClampNeg) := by simp [bk_of, h1, h2]
theorem bk_ofF1 {n m : Nat} {f : Nat → Int32} (h1 : ms_ix n p = false) : bk_of n m f p w = -1 := by simp [bk_of, h1]
theorem bk_ofF2 {n m : Nat} {f : Nat → Int32} (h1 : ms_ix m w = false) : bk_of n m f p w = -1 := by simp [bk_of, h1]
theorem c_ofThing (h : bk g b B) : ms_Cl (d + 2) 10 [.ref b, .int p, .int w] g (some (.int (bk_of (bk_tc B) 6 (bk_th B) p w))) g := by
  have hc : bk_tc B ≤ 8 := h.2.2.2.2.2.2.1
  refine m_X0_ofThing (Nat.le_refl _) (Nat.le_refl _) h.rc (b_X0_ofThing_0 ⟨_, _, c_hasThing h, ?_⟩)
  cases hp : ms_ix (bk_tc B) p with
  | false => refine ms_yes (ms_bi_0.mpr rfl) ?_; rw [bk_ofF1 hp]; exact ⟨rfl, rfl⟩
  | true =>
    refine ms_no (fun e => by cases ms_bi_0.mp e) ?_
    by_cases h0 : w < 0
    · refine ms_yes h0 ?_; rw [bk_ofF2 (ms_ix_lt0 h0)]; exact ⟨rfl, rfl⟩
    · refine ms_no h0 ?_
      by_cases h1 : nI 6 ≤ w
      · refine ms_yes h1 ?_; rw [bk_ofF2 (ms_ix_ge (by decide) h1)]; exact ⟨rfl, rfl⟩
      · refine ms_no h1 ?_
        have hw := ms_ix_in (by decide) h0 h1
        rw [bk_ofT hp hw]
        obtain ⟨k, k1, k2, k3, k4⟩ := ms_ix_k hp
        obtain ⟨j, j1, j2, j3, j4⟩ := ms_ix_k hw
        have e : p * 6 + w = nI (k * 6 + j) := by rw [k2, j2, show (6 : Int32) = nI 6 from rfl, nI_mul, nI_add]
        refine ms_oR_i (ms_fldR_of h.1 rfl) ?_
        rw [e]
        refine ms_rI_i h.2.1 (ms_in (by omega) (by decide)) ?_
        rw [ms_nc (by omega), k3, j3]
        exact ⟨rfl, rfl⟩
theorem c_ofPaper (h : bk g b B) : ms_Cl (d + 2) 11 [.ref b, .int p, .int w] g (some (.int (bk_of (bk_pc B) 4 (bk_pa B) p w))) g := by
  have hc : bk_pc B ≤ 16 := h.2.2.2.2.2.2.2.1
  refine m_X0_ofPaper (Nat.le_refl _) (Nat.le_refl _) h.rc (b_X0_ofPaper_0 ⟨_, _, c_hasPaper h, ?_⟩)
  cases hp : ms_ix (bk_pc B) p with
  | false => refine ms_yes (ms_bi_0.mpr rfl) ?_; rw [bk_ofF1 hp]; exact ⟨rfl, rfl⟩
  | true =>
    refine ms_no (fun e => by cases ms_bi_0.mp e) ?_
    by_cases h0 : w < 0
    · refine ms_yes h0 ?_; rw [bk_ofF2 (ms_ix_lt0 h0)]; exact ⟨rfl, rfl⟩
    · refine ms_no h0 ?_
      by_cases h1 : nI 4 ≤ w
      · refine ms_yes h1 ?_; rw [bk_ofF2 (ms_ix_ge (by decide) h1)]; exact ⟨rfl, rfl⟩
      · refine ms_no h1 ?_
        have hw := ms_ix_in (by decide) h0 h1
        rw [bk_ofT hp hw]
        obtain ⟨k, k1, k2, k3, k4⟩ := ms_ix_k hp
        obtain ⟨j, j1, j2, j3, j4⟩ := ms_ix_k hw
        have e : p * 4 + w = nI (k * 4 + j) := by rw [k2, j2, show (4 : Int32) = nI 4 from rfl, nI_mul, nI_add]
        refine ms_oR_i (ms_fldR_of h.1 rfl) ?_
        rw [e]
        refine ms_rI_i h.2.2.1 (ms_in (by omega) (by decide)) ?_
        rw [ms_nc (by omega), k3, j3]
        exact ⟨rfl, rfl⟩
theorem c_ofEntry (h : bk g b B) : ms_Cl (d + 2) 12 [.ref b, .int p, .int w] g (some (.int (bk_of (bk_ec B) 8 (bk_en B) p w))) g := by
  have hc : bk_ec B ≤ 120 := h.2.2.2.2.2.2.2.2.1
  refine m_X0_ofEntry (Nat.le_refl _) (Nat.le_refl _) h.rc (b_X0_ofEntry_0 ⟨_, _, c_hasEntry h, ?_⟩)
  cases hp : ms_ix (bk_ec B) p with
  | false => refine ms_yes (ms_bi_0.mpr rfl) ?_; rw [bk_ofF1 hp]; exact ⟨rfl, rfl⟩
  | true =>
    refine ms_no (fun e => by cases ms_bi_0.mp e) ?_
    by_cases h0 : w < 0
    · refine ms_yes h0 ?_; rw [bk_ofF2 (ms_ix_lt0 h0)]; exact ⟨rfl, rfl⟩
    · refine ms_no h0 ?_
      by_cases h1 : nI 8 ≤ w
      · refine ms_yes h1 ?_; rw [bk_ofF2 (ms_ix_ge (by decide) h1)]; exact ⟨rfl, rfl⟩
      · refine ms_no h1 ?_
        have hw := ms_ix_in (by decide) h0 h1
        rw [bk_ofT hp hw]
        obtain ⟨k, k1, k2, k3, k4⟩ := ms_ix_k hp
        obtain ⟨j, j1, j2, j3, j4⟩ := ms_ix_k hw
        have e : p * 8 + w = nI (k * 8 + j) := by rw [k2, j2, show (8 : Int32) = nI 8 from rfl, nI_mul, nI_add]
        refine ms_oR_i (ms_fldR_of h.1 rfl) ?_
        rw [e]
        refine ms_rI_i h.2.2.2.2.1 (ms_in (by omega) (by decide)) ?_
        rw [ms_nc (by omega), k3, j3]
        exact ⟨rfl, rfl⟩
theorem c_fieldOf (h : bk g b B) : ms_Cl (d + 3) 13 [.ref b, .int p, .int w] g (some (.int (bk_of (bk_ec B) 8 (bk_en B) p (3 + w)))) g :=
  m_X0_fieldOf (Nat.le_refl _) (Nat.le_refl _) h.rc (b_X0_fieldOf_0 ⟨_, _, c_ofEntry h, rfl, rfl⟩)
end Bk
