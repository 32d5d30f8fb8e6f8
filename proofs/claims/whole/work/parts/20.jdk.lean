/-! CONTRACTS: the JDK's own; words for the store -/
theorem ms_yes {C : Prop} {dc : Decidable C} {A B : Prop} (h : C) (k : A) : @ite _ C dc A B := by rw [if_pos h]; exact k
theorem ms_no {C : Prop} {dc : Decidable C} {A B : Prop} (h : ¬ C) (k : B) : @ite _ C dc A B := by rw [if_neg h]; exact k
theorem ms_set_at {g : ms_S} {a : Nat} {c0 c : ms_C} (h : g[a]? = some c0) : (g.set a c)[a]? = some c := by
  have hl : a < g.length := (List.getElem?_eq_some_iff.mp h).1
  rw [List.getElem?_set]
  simp [hl]
theorem ms_set_ne {g : ms_S} {a b : Nat} {c : ms_C} (h : a ≠ b) : (g.set a c)[b]? = g[b]? := by
  rw [List.getElem?_set]
  simp [h]
theorem ms_tot_le {g : ms_S} {a : Nat} {c d : ms_C} (h : g[a]? = some c) (hs : ms_sz c = ms_sz d) : ms_tot g ≤ ms_tot (g.set a d) := by rw [ms_tot_set h hs.symm]; exact Nat.le_refl _
theorem ms_aL_j {g : ms_S} {a t n : Nat} {A : ms_A} {k : Int32 → Prop} (h : g[a]? = some (.inl (t, n, A))) (ht : Nat.ble t 4 = true) (hk : k (nI n)) : ms_aL g a k := ms_aL_i h ht hk
def ms_fill (f : Nat → Int32) (n : Nat) (v : Int32) : Nat → Int32 := fun j => if j < n then v else f j
theorem ms_fill_0 (f : Nat → Int32) (v : Int32) : ms_fill f 0 v = f := by funext j; simp [ms_fill]
theorem ms_fill_s (f : Nat → Int32) (k : Nat) (v : Int32) : upd (ms_fill f k v) k v = ms_fill f (k + 1) v := by
  funext j
  simp only [upd, ms_fill]
  by_cases h1 : j = k
  · subst h1; simp
  · by_cases h2 : j < k
    · simp [h1, h2, Nat.lt_succ_of_lt h2]
    · have h3 : ¬ j < k + 1 := by omega
      simp [h1, h2, h3]
theorem ms_in {k n : Nat} (h : k < n) (hn : n < 2 ^ 31) : vp_in (nI k) n := vp_in_nI h hn
theorem ms_nc {k : Nat} (h : k < 2 ^ 31) : (nI k).toNatClampNeg = k := nI_clamp h
/-- Arrays.fill of ints -/
theorem c_fill {d : Nat} {g : ms_S} {a n : Nat} {f : Nat → Int32} {v : Int32} (h : g[a]? = some (.inl (0, n, .inl f))) (hn : n < 2 ^ 31) : ms_Cl (d + 1) 274 [.ref a, .int v] g none (g.set a (.inl (0, n, .inl (ms_fill f n v)))) := by
  refine m_J7_fill_53178 (by simp) (ms_tot_le h rfl) ?_
  refine b_J7_fill_53178_0 (ms_aL_j h rfl ?_)
  have loop : ∀ (m k : Nat), k + m = n → ∀ g1 : ms_S, g1 = g.set a (.inl (0, n, .inl (ms_fill f k v))) → ms_V cd_J7_fill_53178 none 0 (ms_Cl d) (fun r1 g2 => r1 = none ∧ g2 = g.set a (.inl (0, n, .inl (ms_fill f n v)))) 5 [(0, .ref a), (1, .int v), (2, .int (nI k)), (3, .int (nI n))] [] g1 := by
    intro m
    induction m with
    | zero =>
      intro k hk g1 hg
      obtain rfl : k = n := by omega
      refine b_J7_fill_53178_5 ?_
      refine ms_yes (Int32.le_refl _) ?_
      exact ⟨rfl, hg⟩
    | succ m ih =>
      intro k hk g1 hg
      refine b_J7_fill_53178_5 ?_
      refine ms_no (nI_ge (by omega) hn) ?_
      refine ms_wI_i (n := n) (f := ms_fill f k v) (by rw [hg]; exact ms_set_at h) (ms_in (by omega) hn) ?_
      rw [nI_1, ms_nc (by omega), ms_fill_s, hg, List.set_set]
      exact ih (k + 1) (by omega) _ rfl
  have h0 := loop n 0 (by omega) g (by
    rw [ms_fill_0]
    apply List.ext_getElem?
    intro i
    by_cases hi : a = i
    · subst hi; rw [ms_set_at h, h]
    · rw [ms_set_ne hi])
  rw [nI_0] at h0
  exact h0
/-- more frames -/
theorem ms_room_mono {s : State} {pl : Platform} {r r' : Room} (hf : r.frames ≤ r'.frames) (hl : r.locals ≤ r'.locals) (hc : r.cells ≤ r'.cells) (hs : r.slots ≤ r'.slots) (h : s.hasRoom pl r' = true) : s.hasRoom pl r = true := by
  unfold State.hasRoom at h ⊢
  simp only [Bool.and_eq_true, decide_eq_true_eq] at h ⊢
  obtain ⟨⟨⟨⟨h1, h2, h3, h4, h5, h6⟩, h7⟩, h8⟩, h9⟩ := h
  refine ⟨⟨⟨⟨by omega, by omega, by omega, by omega, by omega, h6⟩, by omega⟩, by omega⟩, h9⟩
theorem ms_Cl_mono {d d' y : Nat} {as : List Value} {g g' : ms_S} {r : Option Value} (hd : d ≤ d') (h : ms_Cl d y as g r g') : ms_Cl d' y as g r g' := by
  obtain ⟨h1, h2, h3, h4⟩ := h
  refine ⟨h1, h2, h3, fun E l => ?_⟩
  intro p e ha hcs hk s m args below hfr happ hP hK
  obtain ⟨a1, a2, a3, a4, a5, a6, a7, a8⟩ := (Spec.appliesLoose_iff hfr).mp happ
  have ha7 : s.hasRoom e.platform (headSpec [Jvm.Cond.code (ms_Y y).1 (ms_Y y).2.1 (ms_Y y).2.2.1 (ms_Y y).2.2.2.1] ({ frames := d, cells := g'.length - g.length, slots := ms_tot g' - ms_tot g, locals := 61 * d } : Room)).room = true := by
    refine ms_room_mono ?_ ?_ ?_ ?_ a7
    · show d ≤ d'
      exact hd
    · show 61 * d ≤ 61 * d'
      omega
    · exact Nat.le_refl _
    · exact Nat.le_refl _
  exact h4 E l p e ha hcs hk s m args below hfr ((Spec.appliesLoose_iff hfr).mpr ⟨a1, a2, a3, a4, a5, a6, ha7, a8⟩) hP hK
/-- ints that are numbers -/
theorem nI_mul (a b : Nat) : nI a * nI b = nI (a * b) := (Int32.ofNat_mul a b).symm
def ms_bi (b : Bool) : Int32 := bif b then 1 else 0
theorem ms_bi_0 {b : Bool} : ms_bi b = 0 ↔ b = false := by cases b <;> decide
theorem ms_bi_1 {b : Bool} : ms_bi b = 1 ↔ b = true := by cases b <;> decide
theorem ms_bi_01 (b : Bool) : ms_bi b = 0 ∨ ms_bi b = 1 := by cases b <;> decide
/-- an int among 0 .. n - 1 -/
def ms_ix (n : Nat) (p : Int32) : Bool := decide (0 ≤ p.toInt) && decide (p.toInt < n)
theorem ms_ix_k {n : Nat} {p : Int32} (h : ms_ix n p = true) : ∃ k, k < n ∧ p = nI k ∧ p.toNatClampNeg = k ∧ k < 2 ^ 31 := by
  simp only [ms_ix, Bool.and_eq_true, decide_eq_true_eq] at h
  have h2 : p.toInt < 2 ^ 31 := Int32.toInt_lt p
  refine ⟨p.toInt.toNat, by omega, ?_, rfl, by omega⟩
  apply Int32.toInt_inj.mp
  rw [nI_toInt (by omega)]
  omega
theorem ms_ix_nI {n k : Nat} (hk : k < 2 ^ 31) : ms_ix n (nI k) = decide (k < n) := by
  unfold ms_ix
  rw [nI_toInt hk]
  by_cases h : k < n
  · simp [h]
  · simp [h]
theorem ms_ix_lt0 {n : Nat} {p : Int32} (h : p < 0) : ms_ix n p = false := by
  have h1 := Int32.lt_iff_toInt_lt.mp h
  have h2 : (0 : Int32).toInt = 0 := by decide
  unfold ms_ix
  rw [decide_eq_false (by omega)]
  rfl
theorem ms_ix_ge {n : Nat} {p : Int32} (hn : n < 2 ^ 31) (h : nI n ≤ p) : ms_ix n p = false := by
  have h1 := Int32.le_iff_toInt_le.mp h
  rw [nI_toInt hn] at h1
  unfold ms_ix
  rw [decide_eq_false (p := p.toInt < n) (by omega)]
  simp
theorem ms_ix_in {n : Nat} {p : Int32} (hn : n < 2 ^ 31) (h0 : ¬ p < 0) (h : ¬ nI n ≤ p) : ms_ix n p = true := by
  have h1 := mt Int32.le_iff_toInt_le.mpr h
  rw [nI_toInt hn] at h1
  have h2 := mt Int32.lt_iff_toInt_lt.mpr h0
  have h3 : (0 : Int32).toInt = 0 := by decide
  unfold ms_ix
  simp only [Bool.and_eq_true, decide_eq_true_eq]
  omega
theorem ms_nI_le {n m : Nat} {p : Int32} (hnm : m ≤ n) (hn : n < 2 ^ 31) (h : nI n ≤ p) : nI m ≤ p := by
  have h1 := Int32.le_iff_toInt_le.mp h
  apply Int32.le_iff_toInt_le.mpr
  rw [nI_toInt hn] at h1
  rw [nI_toInt (by omega)]
  omega
