/-! THE BOOK AS NUMBERS: what class and model both hold; frames of the class's cells; written by wip/whole/mdl.py from abs.txt -/
/-- things, papers, entries; rows of things, papers, entries; texts -/
abbrev ab_T : Type := (Nat × Nat × Nat) × (Nat → Nat → Nat) × (Nat → Nat → Nat) × (Nat → Nat → Nat) × List (List cl_T)
def ab_t (A : ab_T) : Nat := A.1.1
def ab_p (A : ab_T) : Nat := A.1.2.1
def ab_e (A : ab_T) : Nat := A.1.2.2
def ab_th (A : ab_T) (i j : Nat) : Nat := A.2.1 i j
def ab_pa (A : ab_T) (i j : Nat) : Nat := A.2.2.1 i j
def ab_en (A : ab_T) (i j : Nat) : Nat := A.2.2.2.1 i j
def ab_x (A : ab_T) : List (List cl_T) := A.2.2.2.2
/-- a paper's list -/
def ab_l (A : ab_T) (p : Nat) : List Nat := (List.range (ab_e A)).filter (fun e => decide (ab_en A e 0 = p))
/-- its number in its paper's list -/
def ab_n (A : ab_T) (e : Nat) : Nat := ((List.range e).filter (fun f => decide (ab_en A f 0 = ab_en A e 0))).length
def ab_w (A : ab_T) : Prop := (ab_t A ≤ 8 ∧ ab_p A ≤ 16 ∧ ab_e A ≤ 120 ∧ (ab_x A).length ≤ 20) ∧ (∀ i j, ab_th A i j < 10000) ∧ (∀ i j, ab_pa A i j < 400) ∧ (∀ i j, ab_en A i j < 10000) ∧ (∀ e, e < ab_e A → ab_en A e 0 < ab_p A ∧ ab_en A e 1 < ab_t A) ∧ (∀ p, (ab_l A p).length ≤ 12)
def ab_gh (A : ab_T) (i : Nat) : Bool := decide (ab_th A i 5 = 1)
def RA (A : ab_T) (B : bk_T) : Prop := (bk_tc B = ab_t A ∧ bk_pc B = ab_p A ∧ bk_ec B = ab_e A ∧ bk_xc B = (ab_x A).length) ∧ (∀ i j, i < ab_t A → j < 6 → bk_th B (i * 6 + j) = nI (ab_th A i j)) ∧ (∀ p j, p < ab_p A → j < 3 → bk_pa B (p * 4 + j) = nI (ab_pa A p j)) ∧ (∀ p, p < ab_p A → bk_pa B (p * 4 + 3) = nI (ab_l A p).length) ∧ (∀ p i e, p < ab_p A → (ab_l A p)[i]? = some e → bk_li B (p * 12 + i) = nI e) ∧ (∀ e, e < ab_e A → bk_en B (e * 8) = nI (ab_en A e 0) ∧ bk_en B (e * 8 + 1) = nI (ab_n A e) ∧ ∀ j, j < 6 → bk_en B (e * 8 + 2 + j) = nI (ab_en A e (1 + j)))
/-- which cells may be another's -/
def cx_fr (S : Nat → Bool) (X Y : cx_T) : Prop := (∀ c, S c = false → (∀ k, cx_i Y c k = cx_i X c k) ∧ ∀ n, cx_a Y c n = cx_a X c n) ∧ (S 15 = false → cx_o Y = cx_o X) ∧ cx_b Y = cx_b X
def fL (c : Nat) : Bool := decide (12 ≤ c ∧ c ≤ 14)
def fC (c : Nat) : Bool := decide (12 ≤ c ∧ c ≤ 23)
def fE (c : Nat) : Bool := decide (12 ≤ c ∧ c ≤ 32)
def fT (c : Nat) : Bool := decide ((12 ≤ c ∧ c ≤ 23) ∨ (41 ≤ c ∧ c ≤ 49))
def fQ (S : Nat → Bool) (X : cx_T) (t : ms_S) (v : Int32) (r : Option Value) (g' : ms_S) : Prop := ∃ Y, cx_fr S X Y ∧ g' = ms_x Y t ∧ r = some (.int v)
def fN (S : Nat → Bool) (X : cx_T) (t : ms_S) (P : cx_T → Prop) (r : Option Value) (g' : ms_S) : Prop := ∃ Y, cx_fr S X Y ∧ g' = ms_x Y t ∧ r = none ∧ P Y
def CX (A : ab_T) (b : Nat) (X : cx_T) (t : ms_S) : Prop := (b = 6 ∨ b = 34) ∧ ab_w A ∧ RA A (cx_b X b) ∧ TX t (cx_b X b) (ab_x A)
section Abs
variable {d b i j f u v p e day : Nat} {S S' : Nat → Bool} {X Y Z : cx_T} {t : ms_S} {A : ab_T} {B : bk_T}
theorem fr_0 : cx_fr S X X := ⟨fun _ _ => ⟨fun _ => rfl, fun _ => rfl⟩, fun _ => rfl, rfl⟩
theorem fr_t (h : cx_fr S X Y) (k : cx_fr S Y Z) : cx_fr S X Z := ⟨fun c hc => ⟨fun n => ((k.1 c hc).1 n).trans ((h.1 c hc).1 n), fun n => ((k.1 c hc).2 n).trans ((h.1 c hc).2 n)⟩, fun z => (k.2.1 z).trans (h.2.1 z), k.2.2.trans h.2.2⟩
theorem fr_s (h : cx_fr S X Y) (k : ∀ c, S' c = false → S c = false) : cx_fr S' X Y := ⟨fun c hc => h.1 c (k c hc), fun z => h.2.1 (k 15 z), h.2.2⟩
theorem fr_a (h : cx_fr S X Y) {c n : Nat} {x : Int32} (hc : S c = true) : cx_fr S X (cx_ua Y c n x) := by
  refine ⟨fun c2 h2 => ⟨(h.1 c2 h2).1, fun m => ?_⟩, h.2.1, h.2.2⟩
  have hn : c2 ≠ c := fun z => by rw [z, hc] at h2; cases h2
  show (if c2 = c then upd (Y.2.1 c) n x else Y.2.1 c2) m = _
  rw [if_neg hn]
  exact (h.1 c2 h2).2 m
theorem fr_i (h : cx_fr S X Y) {c k : Nat} {x : Int32} (hc : S c = true) : cx_fr S X (cx_ui Y c k x) := by
  refine ⟨fun c2 h2 => ⟨fun m => ?_, (h.1 c2 h2).2⟩, h.2.1, h.2.2⟩
  have hn : c2 ≠ c := fun z => by rw [z, hc] at h2; cases h2
  show (if c2 = c then upd (Y.1 c) k x else Y.1 c2) m = _
  rw [if_neg hn]
  exact (h.1 c2 h2).1 m
theorem fr_sa (h : cx_fr S X Y) {c : Nat} {f : Nat → Int32} (hc : S c = true) : cx_fr S X (cx_sa Y c f) := by
  refine ⟨fun c2 h2 => ⟨(h.1 c2 h2).1, fun m => ?_⟩, h.2.1, h.2.2⟩
  have hn : c2 ≠ c := fun z => by rw [z, hc] at h2; cases h2
  show (if c2 = c then f else Y.2.1 c2) m = _
  rw [if_neg hn]
  exact (h.1 c2 h2).2 m
theorem fr_sq (h : cx_fr S X Y) {a : Int64} {q : Nat → Int64} : cx_fr S X (cx_sq Y a q) := h
theorem fr_o (h : cx_fr S X Y) {x : Option Nat} (hc : S 15 = true) : cx_fr S X (cx_uo Y x) := ⟨h.1, fun z => absurd (hc.symm.trans z) (by decide), h.2.2⟩
theorem fL_C : ∀ c, fC c = false → fL c = false := fun c h => decide_eq_false (fun z => of_decide_eq_false h (by omega))
theorem fC_E : ∀ c, fE c = false → fC c = false := fun c h => decide_eq_false (fun z => of_decide_eq_false h (by omega))
theorem fC_T : ∀ c, fT c = false → fC c = false := fun c h => decide_eq_false (fun z => of_decide_eq_false h (by omega))
theorem CX.fr (h : CX A b X t) (f : cx_fr S X Y) : CX A b Y t := by
  unfold CX
  rw [f.2.2]
  exact h
theorem CX.w (h : CX A b X t) : ab_w A := h.2.1
theorem CX.isb (h : CX A b X t) : isB X b (cx_b X b) := ⟨h.1, rfl, by
  obtain ⟨_, w, r, _⟩ := h
  refine ⟨?_, ?_, ?_, ?_⟩
  · rw [r.1.1]; exact w.1.1
  · rw [r.1.2.1]; exact w.1.2.1
  · rw [r.1.2.2.1]; exact w.1.2.2.1
  · rw [r.1.2.2.2]; exact w.1.2.2.2⟩
theorem CX.bk (h : CX A b X t) : bk (ms_x X t) b (cx_b X b) := h.isb.bk
theorem k_hasThing (h : CX A b X t) (hi : i < 2 ^ 31) : ms_Cl (d + 1) 3 [.ref b, .int (nI i)] (ms_x X t) (some (.int (ms_bi (decide (i < ab_t A))))) (ms_x X t) := by
  have k := c_hasThing (d := d) (p := nI i) h.bk
  rw [ms_ix_nI hi, h.2.2.1.1.1] at k
  exact k
theorem k_hasPaper (h : CX A b X t) (hi : i < 2 ^ 31) : ms_Cl (d + 1) 4 [.ref b, .int (nI i)] (ms_x X t) (some (.int (ms_bi (decide (i < ab_p A))))) (ms_x X t) := by
  have k := c_hasPaper (d := d) (p := nI i) h.bk
  rw [ms_ix_nI hi, h.2.2.1.1.2.1] at k
  exact k
theorem k_hasEntry (h : CX A b X t) (hi : i < 2 ^ 31) : ms_Cl (d + 1) 5 [.ref b, .int (nI i)] (ms_x X t) (some (.int (ms_bi (decide (i < ab_e A))))) (ms_x X t) := by
  have k := c_hasEntry (d := d) (p := nI i) h.bk
  rw [ms_ix_nI hi, h.2.2.1.1.2.2.1] at k
  exact k
theorem bk_of_nI {n m : Nat} {f : Nat → Int32} (hi : i < n) (hj : j < m) (hn : n < 2 ^ 31) (hm : m < 2 ^ 31) : bk_of n m f (nI i) (nI j) = f (i * m + j) := by
  rw [bk_ofT (by rw [ms_ix_nI (by omega)]; exact decide_eq_true hi) (by rw [ms_ix_nI (by omega)]; exact decide_eq_true hj), ms_nc (by omega), ms_nc (by omega)]
theorem k_ofThing (h : CX A b X t) (hi : i < ab_t A) (hj : j < 6) : ms_Cl (d + 2) 10 [.ref b, .int (nI i), .int (nI j)] (ms_x X t) (some (.int (nI (ab_th A i j)))) (ms_x X t) := by
  have k := c_ofThing (d := d) (p := nI i) (w := nI j) h.bk
  have r := h.2.2.1
  have w := h.w.1
  rw [bk_of_nI (by rw [r.1.1]; exact hi) hj (by rw [r.1.1]; omega) (by decide), r.2.1 i j hi hj] at k
  exact k
theorem k_ofPaper (h : CX A b X t) (hi : i < ab_p A) (hj : j < 3) : ms_Cl (d + 2) 11 [.ref b, .int (nI i), .int (nI j)] (ms_x X t) (some (.int (nI (ab_pa A i j)))) (ms_x X t) := by
  have k := c_ofPaper (d := d) (p := nI i) (w := nI j) h.bk
  have r := h.2.2.1
  have w := h.w.1
  rw [bk_of_nI (by rw [r.1.2.1]; exact hi) (by omega) (by rw [r.1.2.1]; omega) (by decide), r.2.2.1 i j hi hj] at k
  exact k
theorem a_size (h : CX A b X t) (hi : i < ab_p A) : bk_of (bk_pc (cx_b X b)) 4 (bk_pa (cx_b X b)) (nI i) 3 = nI (ab_l A i).length := by
  have r := h.2.2.1
  have w := h.w.1
  rw [show (3 : Int32) = nI 3 from rfl, bk_of_nI (by rw [r.1.2.1]; exact hi) (by omega) (by rw [r.1.2.1]; omega) (by decide), r.2.2.2.1 i hi]
theorem k_size (h : CX A b X t) (hi : i < ab_p A) : ms_Cl (d + 2) 11 [.ref b, .int (nI i), .int 3] (ms_x X t) (some (.int (nI (ab_l A i).length))) (ms_x X t) := by
  have k := c_ofPaper (d := d) (p := nI i) (w := 3) h.bk
  rw [a_size h hi] at k
  exact k
theorem k_ofPaperNo (h : CX A b X t) (hi : ¬ i < ab_p A) (hi2 : i < 2 ^ 31) {w : Int32} : ms_Cl (d + 2) 11 [.ref b, .int (nI i), .int w] (ms_x X t) (some (.int (-1))) (ms_x X t) := by
  have k := c_ofPaper (d := d) (p := nI i) (w := w) h.bk
  have r := h.2.2.1
  rw [bk_ofF1 (by rw [ms_ix_nI hi2, r.1.2.1]; exact decide_eq_false hi)] at k
  exact k
theorem a_en (h : RA A B) (w : ab_w A) (hi : i < ab_e A) (hj : j < 7) : bk_of (bk_ec B) 8 (bk_en B) (nI i) (nI (if j = 0 then 0 else j + 1)) = nI (ab_en A i j) := by
  have w1 := w.1
  rw [bk_of_nI (by rw [h.1.2.2.1]; exact hi) (by split <;> omega) (by rw [h.1.2.2.1]; omega) (by decide)]
  have k := h.2.2.2.2.2 i hi
  by_cases hj0 : j = 0
  · rw [if_pos hj0, hj0]
    exact k.1
  · rw [if_neg hj0, show i * 8 + (j + 1) = i * 8 + 2 + (j - 1) by omega, k.2.2 (j - 1) (by omega), show 1 + (j - 1) = j by omega]
theorem k_paperOf (h : CX A b X t) (hi : i < ab_e A) : ms_Cl (d + 2) 12 [.ref b, .int (nI i), .int 0] (ms_x X t) (some (.int (nI (ab_en A i 0)))) (ms_x X t) := by
  have k := c_ofEntry (d := d) (p := nI i) (w := nI (if 0 = 0 then 0 else 0 + 1)) h.bk
  rw [a_en h.2.2.1 h.w hi (by decide)] at k
  exact k
theorem k_thingOf (h : CX A b X t) (hi : i < ab_e A) : ms_Cl (d + 2) 12 [.ref b, .int (nI i), .int 2] (ms_x X t) (some (.int (nI (ab_en A i 1)))) (ms_x X t) := by
  have k := c_ofEntry (d := d) (p := nI i) (w := nI (if 1 = 0 then 0 else 1 + 1)) h.bk
  rw [a_en h.2.2.1 h.w hi (by decide)] at k
  exact k
theorem k_claimOf (h : CX A b X t) (hi : i < ab_e A) : ms_Cl (d + 2) 12 [.ref b, .int (nI i), .int 7] (ms_x X t) (some (.int (nI (ab_en A i 6)))) (ms_x X t) := by
  have k := c_ofEntry (d := d) (p := nI i) (w := nI (if 6 = 0 then 0 else 6 + 1)) h.bk
  rw [a_en h.2.2.1 h.w hi (by decide)] at k
  exact k
theorem k_fieldOf (h : CX A b X t) (hi : i < ab_e A) (hf : f < 4) : ms_Cl (d + 3) 13 [.ref b, .int (nI i), .int (nI f)] (ms_x X t) (some (.int (nI (ab_en A i (2 + f))))) (ms_x X t) := by
  have k := c_fieldOf (d := d) (p := nI i) (w := nI f) h.bk
  have e := a_en (j := 2 + f) h.2.2.1 h.w hi (by omega)
  rw [if_neg (by omega), show 2 + f + 1 = 3 + f by omega] at e
  rw [show (3 : Int32) + nI f = nI (3 + f) from ms_p1 (p := 3) f, e] at k
  exact k
theorem k_isGhost (h : CX A b X t) (hi : i < ab_t A) : ms_Cl (d + 2) 8 [.ref b, .int (nI i)] (ms_x X t) (some (.int (ms_bi (ab_gh A i)))) (ms_x X t) := by
  have k := c_isGhost (d := d) (p := nI i) h.bk
  have r := h.2.2.1
  have w := h.w
  have w1 := w.1
  have e : bk_gh (cx_b X b) (nI i) = ab_gh A i := by
    unfold bk_gh ab_gh
    rw [ms_ix_nI (by omega), r.1.1, decide_eq_true hi, Bool.true_and, ms_nc (by omega), r.2.1 i 5 hi (by decide)]
    refine decide_eq_decide.mpr ?_
    rw [show (1 : Int32) = nI 1 from rfl]
    exact Iff.of_eq (ms_nI_eq (n := ab_th A i 5) (m := 1) (by have := w.2.1 i 5; omega) (by decide))
  rw [e] at k
  exact k
theorem a_seen (h : CX A b X t) (hi : i < ab_p A) {day : Int32} : bk_seen (cx_b X b) (nI i) day = (!decide (99 < day) && !decide (day < nI (ab_pa A i 2))) := by
  have r := h.2.2.1
  have w1 := h.w.1
  unfold bk_seen
  rw [ms_ix_nI (by omega), r.1.2.1, decide_eq_true hi, Bool.true_and, show (2 : Int32) = nI 2 from rfl]
  rw [show bk_of (ab_p A) 4 (bk_pa (cx_b X b)) (nI i) (nI 2) = nI (ab_pa A i 2) by
    rw [bk_of_nI hi (by omega) (by omega) (by decide), r.2.2.1 i 2 hi (by decide)]]
/-- seen on a day -/
def ab_s (A : ab_T) (p day : Nat) : Bool := decide (p < ab_p A) && (decide (day ≤ 99) && decide (ab_pa A p 2 ≤ day))
theorem a_seenN (h : CX A b X t) (hi : i < 2 ^ 31) (hd : day < 2 ^ 31) : bk_seen (cx_b X b) (nI i) (nI day) = ab_s A i day := by
  unfold ab_s
  by_cases hi2 : i < ab_p A
  · rw [a_seen h hi2, decide_eq_true hi2, Bool.true_and, ← decide_not, ← decide_not]
    congr 1
    · refine decide_eq_decide.mpr ?_
      rw [show (99 : Int32) = nI 99 from rfl, ms_nlt (by decide) hd]
      omega
    · refine decide_eq_decide.mpr ?_
      have := h.w.2.2.1 i 2
      rw [ms_nlt hd (by omega)]
      omega
  · unfold bk_seen
    rw [ms_ix_nI hi, h.2.2.1.1.2.1, decide_eq_false hi2, Bool.false_and, Bool.and_false, Bool.false_and]
theorem k_isSeen (h : CX A b X t) (hi : i < 2 ^ 31) (hd : day < 2 ^ 31) : ms_Cl (d + 3) 9 [.ref b, .int (nI i), .int (nI day)] (ms_x X t) (some (.int (ms_bi (ab_s A i day)))) (ms_x X t) := by
  have k := c_isSeen (d := d) (p := nI i) (q := nI day) h.bk
  rw [a_seenN h hi hd] at k
  exact k
theorem ab_l_lt {e : Nat} (h : (ab_l A p)[i]? = some e) : e < ab_e A ∧ ab_en A e 0 = p := by
  have := List.mem_of_getElem? h
  unfold ab_l at this
  simp only [List.mem_filter, List.mem_range, decide_eq_true_eq] at this
  exact this
theorem k_entryAt {e : Nat} (h : CX A b X t) (hp : p < ab_p A) (he : (ab_l A p)[i]? = some e) : ms_Cl (d + 3) 14 [.ref b, .int (nI p), .int (nI i)] (ms_x X t) (some (.int (nI e))) (ms_x X t) := by
  have k := c_entryAt (d := d) (p := nI p) (q := nI i) h.bk
  have w := h.w
  have w1 := w.1
  have hl := w.2.2.2.2.2 p
  obtain ⟨hi, _⟩ := List.getElem?_eq_some_iff.mp he
  have e1 : bk_eAt (cx_b X b) (nI p) (nI i) = nI e := by
    unfold bk_eAt
    rw [a_size h hp, ms_ix_nI (by omega), decide_eq_true (show i < 12 by omega), Bool.true_and, decide_eq_false (fun z => by rw [ms_nle (by omega) (by omega)] at z; omega), Bool.not_false, cond_true, ms_nc (by omega), ms_nc (by omega)]
    exact h.2.2.1.2.2.2.2.1 p i e hp he
  rw [e1] at k
  exact k
theorem k_entryAtNo (h : CX A b X t) (hp : p < ab_p A) (he : (ab_l A p).length ≤ i) (hi : i < 2 ^ 31) : ms_Cl (d + 3) 14 [.ref b, .int (nI p), .int (nI i)] (ms_x X t) (some (.int (-1))) (ms_x X t) := by
  have k := c_entryAt (d := d) (p := nI p) (q := nI i) h.bk
  have w := h.w
  have w1 := w.1
  have hl := w.2.2.2.2.2 p
  have e1 : bk_eAt (cx_b X b) (nI p) (nI i) = -1 := by
    unfold bk_eAt
    rw [a_size h hp, decide_eq_true ((ms_nle (by omega) (by omega)).mpr he), Bool.not_true, Bool.and_false]
    rfl
  rw [e1] at k
  exact k
/-! what laws tell -/
def tells (A : ab_T) (h df : Nat) (env : Nat → Int32) : Nat := match tx_last h env (ab_x A) with
  | none => df
  | some v => cl1000 v
theorem tells_le {h df : Nat} {env : Nat → Int32} (hd : df ≤ 1000) : tells A h df env ≤ 1000 := by
  unfold tells
  split
  · exact hd
  · exact cl1000_le _
def en_T (A : ab_T) (i : Nat) (k : Nat) : Int32 := if k = 11 then ms_bi (ab_gh A i) else if k = 6 then nI (ab_th A i 4) else if k = 5 then nI i else 0
def en_S (A : ab_T) (i f u v : Nat) (k : Nat) : Int32 := if k = 0 then nI f else if k = 1 then nI u else if k = 2 then nI v else if k = 7 ∧ k_kind u v = 1 ∨ k = 8 ∧ k_kind u v = 2 ∨ k = 9 ∧ k_kind u v = 3 then 1 else en_T A i k
def en_E (A : ab_T) (i p : Nat) (k : Nat) : Int32 := if k = 3 then nI (ab_pa A p 0) else en_T A i k
def en_P (A : ab_T) (p o : Nat) (k : Nat) : Int32 := if k = 3 then nI (ab_pa A p 0) else if k = 4 then nI (ab_pa A p 0) - nI (ab_pa A o 0) else if k = 10 then (if ab_pa A p 1 = ab_pa A o 1 then 1 else 0) else 0
def ab_slip (A : ab_T) (i f u v : Nat) : Nat := if u = v then 0 else tells A 0 9 (en_S A i f u v)
def sm (f : Nat → Nat) : Nat → Nat
  | 0 => 0
  | n + 1 => sm f n + f n
theorem sm_le {f : Nat → Nat} {m : Nat} (h : ∀ k, f k ≤ m) : ∀ n, sm f n ≤ n * m
  | 0 => Nat.zero_le _
  | n + 1 => by
    have := sm_le h n
    have := h n
    rw [Nat.succ_mul]
    show sm f n + f n ≤ _
    omega
def ab_slips (A : ab_T) (a e : Nat) : Nat := sm (fun f => ab_slip A (ab_en A e 1) f (ab_en A a (2 + f)) (ab_en A e (2 + f))) 4
def ab_birth (A : ab_T) (e : Nat) : Nat := tells A 3 20 (en_E A (ab_en A e 1) (ab_en A e 0))
def ab_lookc (A : ab_T) (e : Nat) : Nat := tells A 1 5 (en_E A (ab_en A e 1) (ab_en A e 0)) + sm (fun f => ab_slip A (ab_en A e 1) f (ab_th A (ab_en A e 1) f) (ab_en A e (2 + f))) 4
def ab_look (A : ab_T) (e : Nat) : Nat := if ab_gh A (ab_en A e 1) then ab_birth A e else ab_lookc A e
def ab_open (A : ab_T) (p o : Nat) : Nat := tells A 2 3 (en_P A p o)
def ab_bars (A : ab_T) (p o : Nat) : Bool := (tx_last 4 (en_P A p o) (ab_x A)).isSome
theorem ab_slip_le : ab_slip A i f u v ≤ 1000 := by
  unfold ab_slip
  split
  · exact Nat.zero_le _
  · exact tells_le (by decide)
theorem ab_slips_le {a e : Nat} : ab_slips A a e ≤ 4000 := sm_le (fun _ => ab_slip_le) 4
theorem ab_look_le {e : Nat} : ab_look A e ≤ 5000 := by
  unfold ab_look
  split
  · have := tells_le (A := A) (h := 3) (df := 20) (env := en_E A (ab_en A e 1) (ab_en A e 0)) (by decide)
    unfold ab_birth
    omega
  · have := tells_le (A := A) (h := 1) (df := 5) (env := en_E A (ab_en A e 1) (ab_en A e 0)) (by decide)
    have h2 := sm_le (f := fun f => ab_slip A (ab_en A e 1) f (ab_th A (ab_en A e 1) f) (ab_en A e (2 + f))) (m := 1000) (fun _ => ab_slip_le) 4
    unfold ab_lookc
    omega
theorem ab_open_le {p o : Nat} : ab_open A p o ≤ 1000 := tells_le (by decide)
end Abs
