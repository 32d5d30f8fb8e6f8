/-! THE MODEL'S looks: fewest and most by what is spent; written by wip/whole/mdl.py from e_lkm.txt -/
def FW (P : Nat → Prop) (n : Nat) : Prop := (n = 100000 ∧ ∀ k, ¬ P k) ∨ (n ≤ 1000 ∧ P n ∧ ∀ k, P k → n ≤ k)
def MS (D : Nat) (P : Nat → Prop) (z : Int) : Prop := (-100000 ≤ z ∧ z ≤ (D : Int) - 100000 ∧ ∀ k, ¬ P k) ∨ (0 ≤ z ∧ z ≤ 1000 ∧ P z.toNat ∧ ∀ k, P k → (k : Int) ≤ z)
def AF (N : md_T) (q : Nat) (P : Nat → Nat → Prop) : Prop := ∀ e, e < 41 → ∃ n, md_a N q e = nI n ∧ FW (P e) n
def AM (N : md_T) (q D : Nat) (P : Nat → Nat → Prop) : Prop := ∀ e, e < 41 → ∃ z, md_a N q e = iI z ∧ MS D (P e) z
def g45 (k : Nat) : Bool := decide (k = 44 ∨ k = 45)
def g43 (k : Nat) : Bool := decide (k = 42 ∨ k = 43)
def g47 (k : Nat) : Bool := decide (42 ≤ k ∧ k ≤ 47)
section Lkm
variable {d b i j k n p o e f u v x y s r c day m D D0 D1 D2 more e0 n0 n1 n2 q q2 : Nat} {h t : ms_S} {M N L : md_T} {S' S2 : Nat → Bool} {A : ab_T} {S : List Nat} {P P2 Q P1 : Nat → Prop} {R R2 R1 : Nat → Nat → Prop} {z z0 z1 : Int}
theorem FW_i (h : FW P n) (e : ∀ k, P k ↔ Q k) : FW Q n := by
  rcases h with ⟨h1, h2⟩ | ⟨h1, h2, h3⟩
  · exact Or.inl ⟨h1, fun k hk => h2 k ((e k).mpr hk)⟩
  · exact Or.inr ⟨h1, (e n).mp h2, fun k hk => h3 k ((e k).mpr hk)⟩
theorem MS_i (h : MS D P z) (e : ∀ k, P k ↔ Q k) : MS D Q z := by
  rcases h with ⟨h0, h1, h2⟩ | ⟨h0, h1, h2, h3⟩
  · exact Or.inl ⟨h0, h1, fun k hk => h2 k ((e k).mpr hk)⟩
  · exact Or.inr ⟨h0, h1, (e _).mp h2, fun k hk => h3 k ((e k).mpr hk)⟩
theorem MS_D (h : MS D P z) (hD : D ≤ D2) : MS D2 P z := by
  rcases h with ⟨h0, h1, h2⟩ | h
  · exact Or.inl ⟨h0, by omega, h2⟩
  · exact Or.inr h
theorem FW_add (h0 : FW Q n0) (h1 : FW P1 n1) (h2 : FW P2 n2) (hB : ∀ a b, P1 a → P2 b → a + b ≤ 1000) : FW (fun k => Q k ∨ ∃ a b, P1 a ∧ P2 b ∧ k = a + b) (min n0 (n1 + n2)) := by
  rcases h1 with ⟨e1, f1⟩ | ⟨e1, f1, g1⟩
  · have hle : n0 ≤ 100000 := by rcases h0 with ⟨a, _⟩ | ⟨a, _⟩ <;> omega
    rw [Nat.min_eq_left (by omega)]
    refine FW_i h0 (fun k => ⟨Or.inl, fun hk => ?_⟩)
    rcases hk with hk | ⟨a, b, ha, _⟩
    · exact hk
    · exact absurd ha (f1 a)
  · rcases h2 with ⟨e2, f2⟩ | ⟨e2, f2, g2⟩
    · have hle : n0 ≤ 100000 := by rcases h0 with ⟨a, _⟩ | ⟨a, _⟩ <;> omega
      rw [Nat.min_eq_left (by omega)]
      refine FW_i h0 (fun k => ⟨Or.inl, fun hk => ?_⟩)
      rcases hk with hk | ⟨a, b, _, hb, _⟩
      · exact hk
      · exact absurd hb (f2 b)
    · have hb := hB _ _ f1 f2
      rcases h0 with ⟨e0, f0⟩ | ⟨e0, f0, g0⟩
      · rw [Nat.min_eq_right (by omega)]
        refine Or.inr ⟨hb, Or.inr ⟨_, _, f1, f2, rfl⟩, fun k hk => ?_⟩
        rcases hk with hk | ⟨a, b, ha, hb, rfl⟩
        · exact absurd hk (f0 k)
        · have := g1 a ha
          have := g2 b hb
          omega
      · refine Or.inr ⟨by omega, ?_, fun k hk => ?_⟩
        · by_cases hc : n0 ≤ n1 + n2
          · rw [Nat.min_eq_left hc]; exact Or.inl f0
          · rw [Nat.min_eq_right (by omega)]; exact Or.inr ⟨_, _, f1, f2, rfl⟩
        · rcases hk with hk | ⟨a, b, ha, hb, rfl⟩
          · have := g0 k hk
            omega
          · have := g1 a ha
            have := g2 b hb
            omega
theorem MS_add (h0 : MS D0 Q z0) (h1 : MS D1 P1 z1) (h2 : MS D2 P2 z) (hB : ∀ a b, P1 a → P2 b → a + b ≤ 1000) (hD0 : D0 ≤ D) (hD1 : ∀ b, P2 b → D1 + b ≤ D) (hD2 : (∀ b, ¬ P2 b) → ∀ a, P1 a → D2 + a ≤ D) (hD3 : D1 + D2 ≤ 100000) (hDm : D ≤ 1000) : MS D (fun k => Q k ∨ ∃ a b, P1 a ∧ P2 b ∧ k = a + b) (max z0 (z1 + z)) := by
  have no : (∀ a b, P1 a → P2 b → False) → z1 + z ≤ (D : Int) - 100000 → MS D (fun k => Q k ∨ ∃ a b, P1 a ∧ P2 b ∧ k = a + b) (max z0 (z1 + z)) := by
    intro hn hz
    have iff : ∀ k, Q k ↔ (Q k ∨ ∃ a b, P1 a ∧ P2 b ∧ k = a + b) := fun k => ⟨Or.inl, fun hk => by
      rcases hk with hk | ⟨a, b, ha, hb, _⟩
      · exact hk
      · exact (hn a b ha hb).elim⟩
    rcases h0 with ⟨e0, f0, g0⟩ | ⟨e0, f0, g0, k0⟩
    · exact Or.inl ⟨by omega, by omega, fun k hk => g0 k ((iff k).mpr hk)⟩
    · by_cases hc : z1 + z ≤ z0
      · rw [Int.max_eq_left hc]
        exact Or.inr ⟨e0, f0, Or.inl g0, fun k hk => k0 k ((iff k).mpr hk)⟩
      · have hneg : z1 + z ≤ 0 ∨ 0 < z1 + z := by omega
        exfalso
        rcases h1 with ⟨e1, f1, g1⟩ | ⟨e1, f1, g1, k1⟩
        · rcases h2 with ⟨e2, f2, g2⟩ | ⟨e2, f2, g2, k2⟩
          · omega
          · have := hD1 _ g2
            omega
        · rcases h2 with ⟨e2, f2, g2⟩ | ⟨e2, f2, g2, k2⟩
          · have := hD2 g2 _ g1
            omega
          · exact hn _ _ g1 g2
  rcases h1 with ⟨e1, f1, g1⟩ | ⟨e1, f1, g1, k1⟩
  · refine no (fun a b ha _ => g1 a ha) ?_
    rcases h2 with ⟨e2, f2, g2⟩ | ⟨e2, f2, g2, k2⟩
    · omega
    · have := hD1 _ g2
      omega
  · rcases h2 with ⟨e2, f2, g2⟩ | ⟨e2, f2, g2, k2⟩
    · refine no (fun a b _ hb => g2 b hb) ?_
      have := hD2 g2 _ g1
      omega
    · have hb := hB _ _ g1 g2
      have hz : (z1 + z).toNat = z1.toNat + z.toNat := by omega
      have up : ∀ a b, P1 a → P2 b → ((a + b : Nat) : Int) ≤ z1 + z := fun a b ha hb => by
        have := k1 a ha
        have := k2 b hb
        omega
      rcases h0 with ⟨e0, f0, g0⟩ | ⟨e0, f0, g0, k0⟩
      · by_cases hc : z1 + z ≤ z0
        · exfalso
          have := hD1 _ g2
          omega
        · rw [Int.max_eq_right (by omega)]
          refine Or.inr ⟨by omega, by omega, Or.inr ⟨_, _, g1, g2, hz⟩, fun k hk => ?_⟩
          rcases hk with hk | ⟨a, b, ha, hb, rfl⟩
          · exact absurd hk (g0 k)
          · exact up a b ha hb
      · refine Or.inr ⟨by omega, by omega, ?_, fun k hk => ?_⟩
        · by_cases hc : z1 + z ≤ z0
          · rw [Int.max_eq_left hc]; exact Or.inl g0
          · rw [Int.max_eq_right (by omega)]; exact Or.inr ⟨_, _, g1, g2, hz⟩
        · rcases hk with hk | ⟨a, b, ha, hb, rfl⟩
          · have := k0 k hk
            omega
          · have := up a b ha hb
            omega
theorem AF_i (h : AF N q R) (e : ∀ e, e < 41 → ∀ k, R e k ↔ R2 e k) : AF N q R2 := fun c hc => by
  obtain ⟨n, h1, h2⟩ := h c hc
  exact ⟨n, h1, FW_i h2 (e c hc)⟩
theorem AM_i (h : AM N q D R) (e : ∀ e, e < 41 → ∀ k, R e k ↔ R2 e k) (hD : D ≤ D2) : AM N q D2 R2 := fun c hc => by
  obtain ⟨n, h1, h2⟩ := h c hc
  exact ⟨n, h1, MS_D (MS_i h2 (e c hc)) hD⟩
theorem AF_w (h : AF N q R) (hn : FW (R2 e0) n) (he : ∀ e, e ≠ e0 → ∀ k, R e k ↔ R2 e k) : AF (md_ua N q e0 (nI n)) q R2 := fun c hc => by
  by_cases hce : c = e0
  · subst hce
    exact ⟨n, md_a_at, hn⟩
  · obtain ⟨n', h1, h2⟩ := h c hc
    exact ⟨n', by rw [md_a_ne hce]; exact h1, FW_i h2 (he c hce)⟩
theorem AM_w (h : AM N q D R) (hn : MS D2 (R2 e0) z) (he : ∀ e, e ≠ e0 → ∀ k, R e k ↔ R2 e k) (hD : D ≤ D2) : AM (md_ua N q e0 (iI z)) q D2 R2 := fun c hc => by
  by_cases hce : c = e0
  · subst hce
    exact ⟨z, md_a_at, hn⟩
  · obtain ⟨n', h1, h2⟩ := h c hc
    exact ⟨n', by rw [md_a_ne hce]; exact h1, MS_D (MS_i h2 (he c hce)) hD⟩
theorem AF_e (h : AF N q R) (e : ∀ k, k < 41 → md_a L q2 k = md_a N q k) : AF L q2 R := fun c hc => by
  obtain ⟨n, h1, h2⟩ := h c hc
  exact ⟨n, by rw [e c hc]; exact h1, h2⟩
theorem AM_e (h : AM N q D R) (e : ∀ k, k < 41 → md_a L q2 k = md_a N q k) : AM L q2 D R := fun c hc => by
  obtain ⟨n, h1, h2⟩ := h c hc
  exact ⟨n, by rw [e c hc]; exact h1, h2⟩
theorem MS_rg (h : MS D P z) (hD : D ≤ 1000) : -100000 ≤ z ∧ z ≤ 1000 := by
  rcases h with ⟨h0, h1, _⟩ | ⟨h0, h1, _⟩ <;> omega
theorem FW_rg (h : FW P n) : n ≤ 100000 := by
  rcases h with ⟨h0, _⟩ | ⟨h0, _⟩ <;> omega
theorem FW_1 (hb : b ≤ 1000) : FW (fun k => k = b) b := Or.inr ⟨hb, rfl, fun k hk => by omega⟩
theorem MS_1 (hb : b ≤ 1000) : MS D (fun k => k = b) (b : Int) := Or.inr ⟨by omega, by omega, by omega, fun k hk => by omega⟩
theorem n_clearNext : ms_H' (d + 1) 236 [.ref h.length] (ms_m h M t) (gN g45 h M t (fun N => AF N 44 (fun _ _ => False) ∧ AM N 45 0 (fun _ _ => False))) := by
  refine mx_m (fun a b c => m_X9_clearNext a b ⟨_, ms_m_0⟩ c) gN_l (b_X9_clearNext_0 ?_)
  suffices H : ∀ r i N, i + r = 41 → md_fr g45 M N → (∀ k, k < i → md_a N 44 k = nI 100000 ∧ md_a N 45 k = iI (-100000)) → ms_V cd_X9_clearNext none 0 (ms_Cl d) (gN g45 h M t (fun N => AF N 44 (fun _ _ => False) ∧ AM N 45 0 (fun _ _ => False))) 2 [(0, .ref h.length), (1, .int (nI i))] [] (ms_m h N t) from H 41 0 M rfl mr_0 (fun k hk => absurd hk (Nat.not_lt_zero _))
  intro r
  induction r with
  | zero =>
    intro i N hi hf ha
    have e : i = 41 := by omega
    subst e
    refine b_X9_clearNext_2 (ms_yes (by decide) ⟨N, hf, rfl, rfl, fun e he => ⟨_, (ha e he).1, Or.inl ⟨rfl, fun _ z => z⟩⟩, fun e he => ⟨_, (ha e he).2, Or.inl ⟨by omega, by omega, fun _ z => z⟩⟩⟩)
  | succ r ih =>
    intro i N hi hf ha
    refine b_X9_clearNext_2 (ms_no (fun z => by rw [show (40 : Int32) = nI 40 from rfl, ms_nlt (by omega) (by omega)] at z; omega) ?_)
    simp only [ms_oR_e, ms_oI_e, ms_oL_e, mm_f44, mm_r44, mm_w44, mm_f45, mm_r45, mm_w45]
    refine ⟨ms_in (by omega) (by decide), ms_in (by omega) (by decide), ?_⟩
    rw [ms_nc (by omega), show nI i + 1 = nI (i + 1) from ms_p1 1]
    refine ih (i + 1) _ (by omega) (mr_a (mr_a hf (by decide)) (by decide)) (fun k hk => ?_)
    rw [md_a_fun (by decide), md_a_ua, md_a_ua]
    by_cases hki : k = i
    · rw [if_pos ⟨rfl, hki⟩, if_pos ⟨rfl, hki⟩]
      exact ⟨rfl, by decide⟩
    · rw [if_neg (fun z => hki z.2), if_neg (fun z => hki z.2), md_a_fun (by decide)]
      exact ha k (by omega)
theorem n_takeNext : ms_H' (d + 1) 238 [.ref h.length] (ms_m h M t) (gN g43 h M t (fun N => ∀ k, k < 41 → md_a N 42 k = md_a M 44 k ∧ md_a N 43 k = md_a M 45 k)) := by
  refine mx_m (fun a b c => m_X9_takeNext a b ⟨_, ms_m_0⟩ c) gN_l (b_X9_takeNext_0 ?_)
  suffices H : ∀ r i N, i + r = 41 → md_fr g43 M N → (∀ k, k < i → md_a N 42 k = md_a M 44 k ∧ md_a N 43 k = md_a M 45 k) → ms_V cd_X9_takeNext none 0 (ms_Cl d) (gN g43 h M t (fun N => ∀ k, k < 41 → md_a N 42 k = md_a M 44 k ∧ md_a N 43 k = md_a M 45 k)) 2 [(0, .ref h.length), (1, .int (nI i))] [] (ms_m h N t) from H 41 0 M rfl mr_0 (fun k hk => absurd hk (Nat.not_lt_zero _))
  intro r
  induction r with
  | zero =>
    intro i N hi hf ha
    have e : i = 41 := by omega
    subst e
    exact b_X9_takeNext_2 (ms_yes (by decide) ⟨N, hf, rfl, rfl, ha⟩)
  | succ r ih =>
    intro i N hi hf ha
    refine b_X9_takeNext_2 (ms_no (fun z => by rw [show (40 : Int32) = nI 40 from rfl, ms_nlt (by omega) (by omega)] at z; omega) ?_)
    simp only [ms_oR_e, ms_oI_e, ms_oL_e, mm_f42, mm_r42, mm_w42, mm_f43, mm_r43, mm_w43, mm_f44, mm_r44, mm_w44, mm_f45, mm_r45, mm_w45]
    refine ⟨ms_in (by omega) (by decide), ms_in (by omega) (by decide), ms_in (by omega) (by decide), ms_in (by omega) (by decide), ?_⟩
    rw [ms_nc (by omega), show nI i + 1 = nI (i + 1) from ms_p1 1, md_a_fun (by decide), mr_a3 hf (by decide), mr_a3 hf (by decide)]
    refine ih (i + 1) _ (by omega) (mr_a (mr_a hf (by decide)) (by decide)) (fun k hk => ?_)
    rw [md_a_fun (by decide), md_a_ua, md_a_ua]
    by_cases hki : k = i
    · rw [if_pos ⟨rfl, hki⟩, if_pos ⟨rfl, hki⟩, hki]
      exact ⟨rfl, rfl⟩
    · rw [if_neg (fun z => hki z.2), if_neg (fun z => hki z.2), md_a_fun (by decide)]
      exact ha k (by omega)
def spR (R R2 : Nat → Nat → Prop) (more b i : Nat) (e k : Nat) : Prop := R2 e k ∨ (more ≤ e ∧ e < more + i ∧ ∃ a, R (e - more) a ∧ k = a + b)
theorem n_spend (h2 : AF M 42 R) (h3 : AM M 43 D R) (h4 : AF M 44 R2) (h5 : AM M 45 D0 R2) (hb : b ≤ 1) (hP : ∀ e k, R e k → k ≤ 900) (hD : D + b ≤ D2) (hD0 : D0 ≤ D2) (hD2 : D2 ≤ 1000) (hmore : more < 2 ^ 30) : ms_H' (d + 1) 237 [.ref h.length, .int (nI more), .int (nI b)] (ms_m h M t) (gN g45 h M t (fun N => AF N 44 (spR R R2 more b 41) ∧ AM N 45 D2 (spR R R2 more b 41))) := by
  refine mx_m (fun a b c => m_X9_spend a b ⟨_, ms_m_0⟩ c) gN_l (b_X9_spend_0 ?_)
  suffices H : ∀ r i N, i + r = 41 → md_fr g45 M N → AF N 44 (spR R R2 more b i) → AM N 45 D2 (spR R R2 more b i) → ms_V cd_X9_spend none 0 (ms_Cl d) (gN g45 h M t (fun N => AF N 44 (spR R R2 more b 41) ∧ AM N 45 D2 (spR R R2 more b 41))) 2 [(0, .ref h.length), (1, .int (nI more)), (2, .int (nI b)), (3, .int (nI i))] [] (ms_m h N t) from H 41 0 M rfl mr_0 (AF_i h4 (fun e he k => ⟨Or.inl, fun z => z.elim id (fun z => by omega)⟩)) (AM_i h5 (fun e he k => ⟨Or.inl, fun z => z.elim id (fun z => by omega)⟩) hD0)
  have done : ∀ i N, i ≤ 41 → 40 < i + more → md_fr g45 M N → AF N 44 (spR R R2 more b i) → AM N 45 D2 (spR R R2 more b i) → gN g45 h M t (fun N => AF N 44 (spR R R2 more b 41) ∧ AM N 45 D2 (spR R R2 more b 41)) none (ms_m h N t) := by
    intro i N hi him hf ha hm
    have e : ∀ e, e < 41 → ∀ k, spR R R2 more b i e k ↔ spR R R2 more b 41 e k := fun e he k => by
      unfold spR
      refine or_congr Iff.rfl (and_congr Iff.rfl (and_congr ⟨fun _ => by omega, fun _ => by omega⟩ Iff.rfl))
    exact ⟨N, hf, rfl, rfl, AF_i ha e, AM_i hm e (Nat.le_refl _)⟩
  intro r
  induction r with
  | zero =>
    intro i N hi hf ha hm
    refine b_X9_spend_2 ?_
    rw [ms_p1, show (40 : Int32) = nI 40 from rfl]
    exact ms_yes ((ms_nlt (by decide) (by omega)).mpr (by omega)) (done i N (by omega) (by omega) hf ha hm)
  | succ r ih =>
    intro i N hi hf ha hm
    refine b_X9_spend_2 ?_
    rw [ms_p1]
    refine ms_ite2 (fun z => ?_) (fun z => ?_)
    · rw [show (40 : Int32) = nI 40 from rfl, ms_nlt (by decide) (by omega)] at z
      exact done i N (by omega) z hf ha hm
    · rw [show (40 : Int32) = nI 40 from rfl, ms_nlt (by decide) (by omega)] at z
      obtain ⟨n1, a1, w1⟩ := h2 i (by omega)
      obtain ⟨y1, b1, v1⟩ := h3 i (by omega)
      obtain ⟨n0, a0, w0⟩ := ha (i + more) (by omega)
      obtain ⟨y0, b0, v0⟩ := hm (i + more) (by omega)
      have r1 := FW_rg w1
      have r0 := FW_rg w0
      have q1 := MS_rg v1 (by omega)
      have q0 := MS_rg v0 hD2
      rw [← mr_a3 hf (show g45 42 = false by decide)] at a1
      rw [← mr_a3 hf (show g45 43 = false by decide)] at b1
      have iff : ∀ k, (spR R R2 more b i (i + more) k ∨ ∃ a c, R i a ∧ c = b ∧ k = a + c) ↔ spR R R2 more b (i + 1) (i + more) k := by
        intro k
        unfold spR
        rw [show i + more - more = i by omega]
        constructor
        · intro hk
          rcases hk with (hk | ⟨_, hk, _⟩) | ⟨a, c, hx, hc, hk⟩
          · exact Or.inl hk
          · omega
          · exact Or.inr ⟨by omega, by omega, a, hx, by omega⟩
        · intro hk
          rcases hk with hk | ⟨_, _, a, hx, hk⟩
          · exact Or.inl (Or.inl hk)
          · exact Or.inr ⟨a, b, hx, rfl, hk⟩
      have oth : ∀ e, e ≠ i + more → ∀ k, spR R R2 more b i e k ↔ spR R R2 more b (i + 1) e k := fun e he k => by
        unfold spR
        refine or_congr Iff.rfl (and_congr Iff.rfl (and_congr ⟨fun _ => by omega, fun _ => by omega⟩ Iff.rfl))
      have W := FW_i (FW_add w0 w1 (FW_1 (b := b) (by omega)) (fun a c ha hc => by have := hP _ _ ha; omega)) iff
      have V := MS_i (MS_add (D := D2) v0 v1 (MS_1 (D := 0) (b := b) (by omega)) (fun a c ha hc => by have := hP _ _ ha; omega) (Nat.le_refl _) (fun c hc => by omega) (fun hn => absurd rfl (hn b)) (by omega) hD2) iff
      · have fin : ∀ v w, v = nI (min n0 (n1 + b)) → w = iI (max y0 (y1 + b)) → ms_V cd_X9_spend none 0 (ms_Cl d) (gN g45 h M t (fun N => AF N 44 (spR R R2 more b 41) ∧ AM N 45 D2 (spR R R2 more b 41))) 2 [(0, .ref h.length), (1, .int (nI more)), (2, .int (nI b)), (3, .int (nI (i + 1)))] [] (ms_m h (md_ua (md_ua N 44 (i + more) v) 45 (i + more) w) t) := by
          intro v w hv hw
          rw [hv, hw]
          refine ih (i + 1) _ (by omega) (mr_a (mr_a hf (by decide)) (by decide)) ?_ ?_
          · exact AF_e (AF_w ha W oth) (fun k _ => by rw [md_a_fun (by decide)])
          · exact AM_w (AM_e hm (fun k _ => by rw [md_a_fun (by decide)])) V oth (Nat.le_refl _)
        simp only [ms_oR_e, ms_oI_e, ms_oL_e, mm_f42, mm_r42, mm_w42, mm_f43, mm_r43, mm_w43, mm_f44, mm_r44, mm_w44, mm_f45, mm_r45, mm_w45]
        refine ⟨ms_in (by omega) (by decide), ms_in (by omega) (by decide), ms_in (by omega) (by decide), ?_⟩
        rw [ms_nc (by omega), ms_nc (by omega), a1, b1, a0, ms_p1, show nI i + 1 = nI (i + 1) from ms_p1 1, iI_an (by omega) (by omega) (by omega), md_a_fun (by decide), md_a_fun (by decide), b0]
        refine ms_ite2 (fun z1 => ?_) (fun z1 => ?_) <;> rw [ms_nle (by omega) (by omega)] at z1
        · refine ⟨ms_in (by omega) (by decide), ms_in (by omega) (by decide), ms_in (by omega) (by decide), ?_⟩
          refine ms_ite2 (fun z2 => ?_) (fun z2 => ?_) <;> rw [iI_le (by omega) (by omega) (by omega) (by omega)] at z2
          · refine ⟨ms_in (by omega) (by decide), ms_in (by omega) (by decide), fin _ _ ?_ ?_⟩
            · rw [Nat.min_eq_left z1]
            · rw [Int.max_eq_left z2]
          · refine ⟨ms_in (by omega) (by decide), fin _ _ ?_ ?_⟩
            · rw [Nat.min_eq_left z1]
            · rw [Int.max_eq_right (by omega)]
        · refine ⟨ms_in (by omega) (by decide), ms_in (by omega) (by decide), ?_⟩
          refine ms_ite2 (fun z2 => ?_) (fun z2 => ?_) <;> rw [iI_le (by omega) (by omega) (by omega) (by omega)] at z2
          · refine ⟨ms_in (by omega) (by decide), ms_in (by omega) (by decide), fin _ _ ?_ ?_⟩
            · rw [Nat.min_eq_right (by omega)]
            · rw [Int.max_eq_left z2]
          · refine ⟨ms_in (by omega) (by decide), fin _ _ ?_ ?_⟩
            · rw [Nat.min_eq_right (by omega)]
            · rw [Int.max_eq_right (by omega)]
end Lkm
