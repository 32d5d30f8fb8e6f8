/-! A WORLD MADE: the model's row; how it is made; written by wip/whole/mdl.py from k_wp.txt -/
def dr (s : Nat) : Nat := (s * 1103 + 12345) % 1000003
abbrev gT : Type := ab_T × (Nat → Option Nat) × Nat
def thl (A : ab_T) (t n : Nat) : List Nat := (List.range n).filter (fun e => decide (ab_en A e 1 = t))
/-- an entry more, by its origin -/
def gF (A : ab_T) (t : Nat) (o : Option Nat) (i : Nat) : Nat := match o with
  | none => ab_th A t i
  | some g => ab_en A g (2 + i)
def gA1 (A : ab_T) (k t : Nat) (o : Option Nat) : ab_T := wAE A k t (gF A t o) (ab_th A t 4)
def gM1 (A : ab_T) (mf : Nat → Option Nat) (o : Option Nat) : Nat → Option Nat := fun i => if i = ab_e A then o else mf i
def gE2 (A : ab_T) (mf : Nat → Option Nat) (k t : Nat) (o : Option Nat) (s : Nat) : gT := if dr s % 6 = 0 then (wAS (gA1 A k t o) (ab_e A) (dr (dr s) % 4) ((ab_en (gA1 A k t o) (ab_e A) (2 + dr (dr s) % 4) * 7 + dr (dr (dr s)) % 10000) % 10000), gM1 A mf o, dr (dr (dr s))) else (gA1 A k t o, gM1 A mf o, dr s)
/-- the origin drawn, and the state behind it -/
def gO (A : ab_T) (k t s : Nat) : Option Nat × Nat := if k = 0 then (none, s) else if dr s % 4 = 0 then (none, dr s) else if (thl A t (ab_e A)).length = 0 then (none, dr s) else ((thl A t (ab_e A))[dr (dr s) % (thl A t (ab_e A)).length]?, dr (dr s))
def gEn (G : gT) (k t : Nat) : gT := if dr G.2.2 % 3 = 0 then (G.1, G.2.1, dr G.2.2) else gE2 G.1 G.2.1 k t (gO G.1 k t (dr G.2.2)).1 (gO G.1 k t (dr G.2.2)).2
def gTh (G : gT) (k : Nat) : Nat → gT
  | 0 => G
  | t + 1 => if ab_gh (gTh G k t).1 t then gTh G k t else gEn (gTh G k t) k t
def gP1 (G : gT) (k : Nat) : gT := (wAP G.1 k (dr G.2.2 % 2) 0, G.2.1, dr G.2.2)
def gPa (G : gT) : Nat → gT
  | 0 => G
  | k + 1 => gTh (gP1 (gPa G k) k) k (ab_t G.1)
def gWo (A : ab_T) (s n : Nat) : gT := gPa (wA0 A, fun _ => none, s) n
section Wp
variable {A A0 : ab_T} {y c dd p t cl e fi v q k n i j s : Nat} {f : Nat → Nat} {r r' : Nat → Int32} {Ts : List (List cl_T)} {mf : Nat → Option Nat} {o : Option Nat} {G : gT}
theorem MT_eq (h : ∀ m, 946 ≤ m → r' m = r m) (hT : MT r Ts) : MT r' Ts := by
  intro i cs hcs
  obtain ⟨a1, a2, n, o, a, w, k⟩ := hT i cs hcs
  refine ⟨by rw [h _ (by omega)]; exact a1, a2, n, o, a, ⟨w.1, fun k hk => by rw [h _ (by omega), h _ (by omega)]; exact w.2 k hk⟩, fun j c hc => ?_⟩
  obtain ⟨k1, k2, s, m, e, k3, k4, k5, k6, k7, k8, k9, k10⟩ := k j c hc
  exact ⟨by rw [h _ (by omega)]; exact k1, k2, s, m, e, k3, k4, k5, by rw [h _ (by omega)]; exact k6, by rw [h _ (by omega)]; exact k7, by rw [h _ (by omega)]; exact k8, by rw [h _ (by omega)]; exact k9, k10⟩
theorem RM_0 (h : RM A r) (h1 : r' 1 = 0) (h2 : r' 2 = 0) (h3 : ∀ m, m ≠ 1 → m ≠ 2 → r' m = r m) : RM (wA0 A) r' := by
  obtain ⟨⟨a0, a1, a2, a3⟩, b, c, d, e⟩ := h
  refine ⟨⟨by rw [h3 _ (by omega) (by omega)]; exact a0, h1, h2, by rw [h3 _ (by omega) (by omega)]; exact a3⟩, fun i j hi hj => by rw [h3 _ (by omega) (by omega)]; exact b i j hi hj, fun p j hp => absurd hp (Nat.not_lt_zero _), fun e j he => absurd he (Nat.not_lt_zero _), MT_eq (fun m hm => h3 m (by omega) (by omega)) e⟩
theorem RM_P (h : RM A r) (hw : ab_w A) (hp : ab_p A < 16) (h0 : r' 1 = nI (ab_p A + 1)) (h1 : r' (58 + 3 * ab_p A) = nI y ∧ r' (58 + 3 * ab_p A + 1) = nI c ∧ r' (58 + 3 * ab_p A + 2) = nI dd) (h2 : ∀ m, m ≠ 1 → (m < 58 + 3 * ab_p A ∨ 58 + 3 * ab_p A + 2 < m) → r' m = r m) : RM (wAP A y c dd) r' := by
  obtain ⟨⟨a0, a1, a2, a3⟩, b, cc, d, e⟩ := h
  have w := hw.1
  refine ⟨⟨by rw [h2 _ (by omega) (by omega)]; exact a0, h0, by rw [h2 _ (by omega) (by omega)]; exact a2, by rw [h2 _ (by omega) (by omega)]; exact a3⟩, fun i j hi hj => ?_, fun p j hp2 hj => ?_, fun e j he hj => ?_, MT_eq (fun m hm => h2 m (by omega) (by omega)) e⟩
  · have hi' : i < ab_t A := hi
    rw [h2 _ (by omega) (by omega)]
    exact b i j hi hj
  · have hp' : p < ab_p A + 1 := hp2
    rw [wAP_pa]
    by_cases hpp : p = ab_p A
    · subst hpp
      rw [if_pos rfl]
      match j, hj with
      | 0, _ => exact h1.1
      | 1, _ => exact h1.2.1
      | 2, _ => exact h1.2.2
    · rw [if_neg hpp, h2 _ (by omega) (by omega)]
      exact cc p j (by omega) hj
  · rw [h2 _ (by omega) (by omega)]
    exact d e j he hj
theorem RM_E (h : RM A r) (hw : ab_w A) (he : ab_e A < 120) (h0 : r' 2 = nI (ab_e A + 1)) (h1 : r' (106 + 7 * ab_e A) = nI p ∧ r' (106 + 7 * ab_e A + 1) = nI t ∧ r' (106 + 7 * ab_e A + 2) = nI (f 0) ∧ r' (106 + 7 * ab_e A + 3) = nI (f 1) ∧ r' (106 + 7 * ab_e A + 4) = nI (f 2) ∧ r' (106 + 7 * ab_e A + 5) = nI (f 3) ∧ r' (106 + 7 * ab_e A + 6) = nI cl) (h2 : ∀ m, m ≠ 2 → (m < 106 + 7 * ab_e A ∨ 106 + 7 * ab_e A + 6 < m) → r' m = r m) : RM (wAE A p t f cl) r' := by
  obtain ⟨⟨a0, a1, a2, a3⟩, b, cc, d, e⟩ := h
  have w := hw.1
  refine ⟨⟨by rw [h2 _ (by omega) (by omega)]; exact a0, by rw [h2 _ (by omega) (by omega)]; exact a1, h0, by rw [h2 _ (by omega) (by omega)]; exact a3⟩, fun i j hi hj => ?_, fun p j hp2 hj => ?_, fun e1 j he1 hj => ?_, MT_eq (fun m hm => h2 m (by omega) (by omega)) e⟩
  · have hi' : i < ab_t A := hi
    rw [h2 _ (by omega) (by omega)]
    exact b i j hi hj
  · have hp' : p < ab_p A := hp2
    rw [h2 _ (by omega) (by omega)]
    exact cc p j hp2 hj
  · have he' : e1 < ab_e A + 1 := he1
    rw [wAE_en]
    by_cases hee : e1 = ab_e A
    · subst hee
      rw [if_pos rfl]
      obtain ⟨q0, q1, q2, q3, q4, q5, q6⟩ := h1
      match j, hj with
      | 0, _ => exact q0
      | 1, _ => exact q1
      | 2, _ => exact q2
      | 3, _ => exact q3
      | 4, _ => exact q4
      | 5, _ => exact q5
      | 6, _ => exact q6
    · rw [if_neg hee, h2 _ (by omega) (by omega)]
      exact d e1 j (by omega) hj
theorem RM_S (h : RM A r) (hw : ab_w A) (he : e < ab_e A) (hf : fi < 4) (h0 : r' (106 + 7 * e + 2 + fi) = nI v) (h2 : ∀ m, m ≠ 106 + 7 * e + 2 + fi → r' m = r m) : RM (wAS A e fi v) r' := by
  obtain ⟨⟨a0, a1, a2, a3⟩, b, cc, d, ee⟩ := h
  have w := hw.1
  refine ⟨⟨by rw [h2 _ (by omega)]; exact a0, by rw [h2 _ (by omega)]; exact a1, by rw [h2 _ (by omega)]; exact a2, by rw [h2 _ (by omega)]; exact a3⟩, fun i j hi hj => ?_, fun p j hp2 hj => ?_, fun e1 j he1 hj => ?_, MT_eq (fun m hm => h2 m (by omega)) ee⟩
  · have hi' : i < ab_t A := hi
    rw [h2 _ (by omega)]
    exact b i j hi hj
  · have hp' : p < ab_p A := hp2
    rw [h2 _ (by omega)]
    exact cc p j hp2 hj
  · have he' : e1 < ab_e A := he1
    rw [wAS_en]
    by_cases hc : e1 = e ∧ j = 2 + fi
    · rw [if_pos hc, show 106 + 7 * e1 + j = 106 + 7 * e + 2 + fi by omega]
      exact h0
    · rw [if_neg hc, h2 _ (by omega)]
      exact d e1 j he1 hj
theorem ab_w_0 (hw : ab_w A) : ab_w (wA0 A) := by
  obtain ⟨⟨a, b, c, d⟩, e, f, g, h, i⟩ := hw
  exact ⟨⟨a, Nat.zero_le _, Nat.zero_le _, d⟩, e, f, g, fun e he => absurd he (Nat.not_lt_zero _), fun p => Nat.zero_le _⟩
theorem ab_w_P (hw : ab_w A) (hp : ab_p A < 16) (hy : y < 400) (hc : c < 400) (hd : dd < 400) : ab_w (wAP A y c dd) := by
  obtain ⟨⟨a, b, c1, d⟩, e, f, g, h, i⟩ := hw
  refine ⟨⟨a, hp, c1, d⟩, e, fun i j => ?_, g, fun e he => ⟨Nat.lt_succ_of_lt (h e he).1, (h e he).2⟩, i⟩
  rw [wAP_pa]
  split
  · split
    · exact hy
    · split
      · exact hc
      · split
        · exact hd
        · omega
  · exact f i j
theorem ab_w_E (hw : ab_w A) (he : ab_e A < 120) (hp : p < ab_p A) (ht : t < ab_t A) (hf : ∀ i, f i < 10000) (hc : cl < 10000) (hl : (ab_l A p).length < 12) : ab_w (wAE A p t f cl) := by
  obtain ⟨⟨a, b, c1, d⟩, e, f1, g, h, i⟩ := hw
  refine ⟨⟨a, b, he, d⟩, e, f1, fun i j => ?_, fun e1 he1 => ?_, fun q => ?_⟩
  · rw [wAE_en]
    split
    · split
      · omega
      · split
        · omega
        · split
          · exact hf _
          · split
            · exact hc
            · omega
    · exact g i j
  · have he' : e1 < ab_e A + 1 := he1
    rw [wAE_en, wAE_en]
    by_cases hee : e1 = ab_e A
    · rw [if_pos hee, if_pos hee, if_pos rfl, if_neg (by decide), if_pos rfl]
      exact ⟨hp, ht⟩
    · rw [if_neg hee, if_neg hee]
      exact h e1 (by omega)
  · rw [wAE_l]
    split
    · rename_i hq
      rw [hq, List.length_append, List.length_singleton]
      exact hl
    · exact i q
theorem ab_w_S (hw : ab_w A) (hv : v < 10000) : ab_w (wAS A e fi v) := by
  obtain ⟨a, b, c, d, f, g⟩ := hw
  refine ⟨a, b, c, fun i j => ?_, fun e1 he1 => ?_, fun q => ?_⟩
  · rw [wAS_en]
    split
    · exact hv
    · exact d i j
  · rw [wAS_0, wAS_1]
    exact f e1 he1
  · rw [wAS_l]
    exact g q
theorem dr_lt : dr s < 1000003 := by
  unfold dr
  exact Nat.mod_lt _ (by decide)
/-- what holds of a world being made: of things A0, behind t things of the paper k -/
def GI (A0 : ab_T) (k t : Nat) (G : gT) : Prop := (ab_t G.1 = ab_t A0 ∧ G.1.2.1 = A0.2.1 ∧ ab_x G.1 = ab_x A0) ∧ ab_w G.1 ∧ ab_p G.1 = k + 1 ∧ ab_e G.1 ≤ 8 * k + t ∧ (ab_l G.1 k).length ≤ t ∧ (∀ p, p < ab_p G.1 → ab_pa G.1 p 2 = 0) ∧ G.2.2 < 1000003 ∧ ∀ i g, G.2.1 i = some g → g < 120
theorem gO_lt (hs : s < 1000003) : (gO A k t s).2 < 1000003 := by
  unfold gO
  split
  · exact hs
  · split
    · exact dr_lt
    · split <;> exact dr_lt
theorem gF_lt (hw : ab_w A) : gF A t o i < 10000 := by
  unfold gF
  cases o with
  | none => exact hw.2.1 _ _
  | some g => exact hw.2.2.2.1 _ _
theorem gA1_w (hw : ab_w A) (he : ab_e A < 120) (hp : p < ab_p A) (ht : t < ab_t A) (hl : (ab_l A p).length < 12) : ab_w (gA1 A p t o) := ab_w_E hw he hp ht (fun i => gF_lt hw) (hw.2.1 _ _) hl
theorem GI_E2 (h : GI A0 k t (A, mf, s)) (hk : k < 8) (ht : t < ab_t A0) {s2 : Nat} (ho : ∀ g, o = some g → g < 120) : GI A0 k (t + 1) (gE2 A mf k t o s2) := by
  obtain ⟨⟨g1, g2, g3⟩, g4, g5, g6, g7, g8, g9, g10⟩ := h
  have hmb : ∀ i g, gM1 A mf o i = some g → g < 120 := fun i g hg => by
    unfold gM1 at hg
    split at hg
    · exact ho g hg
    · exact g10 i g hg
  have g1' : ab_t A = ab_t A0 := g1
  have g5' : ab_p A = k + 1 := g5
  have g6' : ab_e A ≤ 8 * k + t := g6
  have g7' : (ab_l A k).length ≤ t := g7
  have h8 := g4.1.1
  have h8' : ab_t A ≤ 8 := h8
  have hw : ab_w (gA1 A k t o) := gA1_w g4 (by omega) (by omega) (by omega) (by omega)
  have hl : (ab_l (gA1 A k t o) k).length ≤ t + 1 := by
    unfold gA1
    rw [wAE_l, if_pos rfl, List.length_append, List.length_singleton]
    omega
  unfold gE2
  split
  · refine ⟨⟨g1, g2, g3⟩, ab_w_S hw (Nat.mod_lt _ (by decide)), g5, ?_, ?_, g8, dr_lt, hmb⟩
    · show ab_e A + 1 ≤ _
      omega
    · show (ab_l (wAS _ _ _ _) k).length ≤ _
      rw [wAS_l]
      exact hl
  · refine ⟨⟨g1, g2, g3⟩, hw, g5, ?_, hl, g8, dr_lt, hmb⟩
    show ab_e A + 1 ≤ _
    omega
theorem GI_up (h : GI A0 k t G) : GI A0 k (t + 1) G := by
  obtain ⟨g1, g4, g5, g6, g7, g8, g9⟩ := h
  exact ⟨g1, g4, g5, by omega, by omega, g8, g9⟩
theorem GI_dr (h : GI A0 k t G) : GI A0 k t (G.1, G.2.1, dr G.2.2) := by
  obtain ⟨g1, g4, g5, g6, g7, g8, g9⟩ := h
  exact ⟨g1, g4, g5, g6, g7, g8, dr_lt, g9.2⟩
theorem gO_120 (hw : ab_w A) : ∀ g, (gO A k t s).1 = some g → g < 120 := by
  intro g hg
  have h120 := hw.1.2.2.1
  unfold gO at hg
  split at hg
  · cases hg
  · split at hg
    · cases hg
    · split at hg
      · cases hg
      · have := List.mem_of_getElem? hg
        have := List.mem_range.mp (List.mem_filter.mp this).1
        omega
theorem GI_En (h : GI A0 k t G) (hk : k < 8) (ht : t < ab_t A0) : GI A0 k (t + 1) (gEn G k t) := by
  unfold gEn
  split
  · exact GI_up (GI_dr h)
  · exact GI_E2 (s := dr G.2.2) (GI_dr h) hk ht (gO_120 h.2.1)
theorem GI_Th (h : GI A0 k 0 G) (hk : k < 8) : ∀ t, t ≤ ab_t A0 → GI A0 k t (gTh G k t)
  | 0, _ => h
  | t + 1, ht => by
    have ih := GI_Th h hk t (by omega)
    unfold gTh
    split
    · exact GI_up ih
    · exact GI_En ih hk (by omega)
/-- between two papers -/
def GP (A0 : ab_T) (k : Nat) (G : gT) : Prop := (ab_t G.1 = ab_t A0 ∧ G.1.2.1 = A0.2.1 ∧ ab_x G.1 = ab_x A0) ∧ ab_w G.1 ∧ ab_p G.1 = k ∧ ab_e G.1 ≤ 8 * k ∧ (∀ p, p < ab_p G.1 → ab_pa G.1 p 2 = 0) ∧ G.2.2 < 1000003 ∧ ∀ i g, G.2.1 i = some g → g < 120
theorem GP_0 (hw : ab_w A) (hs : s < 1000003) (hm : ∀ i g, mf i = some g → g < 120) : GP A 0 (wA0 A, mf, s) := ⟨⟨rfl, rfl, rfl⟩, ab_w_0 hw, rfl, Nat.le_refl _, fun p hp => absurd hp (Nat.not_lt_zero _), hs, hm⟩
theorem GP_1 (h : GP A0 k G) (hk : k < 8) : GI A0 k 0 (gP1 G k) := by
  obtain ⟨g1, g4, g5, g6, g8, g9⟩ := h
  have hm : dr G.2.2 % 2 < 2 := Nat.mod_lt _ (by decide)
  refine ⟨g1, ab_w_P g4 (by omega) (by omega) (by omega) (by omega), ?_, g6, ?_, fun p hp => ?_, dr_lt, g9.2⟩
  · show ab_p G.1 + 1 = k + 1
    rw [g5]
  · show (ab_l (wAP G.1 k (dr G.2.2 % 2) 0) k).length ≤ 0
    rw [show ab_l (wAP G.1 k (dr G.2.2 % 2) 0) k = ab_l (wAP G.1 k (dr G.2.2 % 2) 0) (ab_p G.1) by rw [g5], wAP_l0 g4]
    exact Nat.le_refl _
  · show ab_pa (wAP G.1 k (dr G.2.2 % 2) 0) p 2 = 0
    have hp' : p < ab_p G.1 + 1 := hp
    rw [wAP_pa]
    by_cases hpp : p = ab_p G.1
    · rw [if_pos hpp]; rfl
    · rw [if_neg hpp]
      exact g8 p (by omega)
theorem GP_e (h : GI A0 k t G) (ht : t ≤ 8) : GP A0 (k + 1) G := by
  obtain ⟨g1, g4, g5, g6, g7, g8, g9⟩ := h
  exact ⟨g1, g4, g5, by omega, g8, g9⟩
theorem GP_Pa (h : GP A0 0 G) : ∀ k, k ≤ 8 → GP A0 k (gPa G k)
  | 0, _ => h
  | k + 1, hk => by
    have ih := GP_Pa h k (by omega)
    have h8 : ab_t A0 ≤ 8 := by rw [← h.1.1]; exact h.2.1.1.1
    unfold gPa
    rw [h.1.1]
    exact GP_e (GI_Th (GP_1 ih (by omega)) (by omega) (ab_t A0) (Nat.le_refl _)) h8
theorem GP_Wo (hw : ab_w A) (hs : s < 1000003) (hn : n ≤ 8) : GP A n (gWo A s n) := GP_Pa (GP_0 hw hs (fun i g hg => by cases hg)) n hn
end Wp
