/-! THE MODEL'S READER: its code and its pile; written by wip/whole/mdl.py from zt_mp.txt -/
def bd (op : Nat) : Nat := if 30 ≤ op then 0 else if op = 29 then 1 else if op = 28 then 2 else if op = 27 then 3 else if 24 ≤ op then 4 else if 22 ≤ op then 6 else 5
abbrev pl_T : Type := List (Nat × Nat)
/-- the pile, its top first -/
def pl (p q : Nat → Int32) : pl_T → Prop
  | [] => True
  | x :: r => (p r.length = nI x.1 ∧ q r.length = nI x.2) ∧ (20 ≤ x.1 ∧ x.1 < 32 ∧ x.2 < 400) ∧ pl p q r
def ib : pl_T → Int32
  | [] => -1
  | x :: r => if 30 ≤ x.1 then nI x.1 else ib r
def isc : pl_T → Bool
  | [] => false
  | x :: r => if x.1 < 24 then isc r else decide (x.1 < 27)
def bt : pl_T → Nat
  | [] => 0
  | x :: _ => bd x.1
/-- the code when these have been settled -/
def sq : pl_T → (Nat → Nat) → (Nat → Nat) → Nat → (Nat → Nat) × (Nat → Nat) × Nat
  | [], o, a, c => (o, a, c)
  | x :: r, o, a, c => if x.1 = 28 ∨ x.1 = 29 then sq r o (fun i => if i = x.2 then c else a i) c else sq r (fun i => if i = c then x.1 else o i) (fun i => if i = c then 0 else a i) (c + 1)
def MP (c : Nat) (L : pl_T) (o a : Nat → Nat) (M : md_T) : Prop := md_i M 17 = nI c ∧ md_i M 23 = nI L.length ∧ c + L.length ≤ 400 ∧ (∀ i, i < c → (md_a M 18 i = nI (o i) ∧ md_a M 19 i = nI (a i)) ∧ o i < 30 ∧ a i < 2 ^ 30) ∧ pl (md_a M 21) (md_a M 22) L
def emM (M : md_T) (c op arg : Nat) : md_T := md_ui (md_ua (md_ua M 18 c (nI op)) 19 c (nI arg)) 17 (nI (c + 1))
def puM (M : md_T) (k op pos : Nat) : md_T := md_ui (md_ua (md_ua M 21 k (nI op)) 22 k (nI pos)) 23 (nI (k + 1))
def gSt (k : Nat) : Bool := decide (17 ≤ k ∧ k ≤ 19 ∨ k = 23)
section Mp
variable {d c op arg pos le k : Nat} {h t g : ms_S} {M N M0 : md_T} {L P Q : pl_T} {o a : Nat → Nat} {p q p' q' : Nat → Int32} {x : Nat × Nat}
theorem bd_lt (h : 1 ≤ bd op) : op < 30 := by
  unfold bd at h
  split at h
  · omega
  · omega
theorem bd7 (op : Nat) : bd op < 7 := by
  unfold bd
  split
  · decide
  split
  · decide
  split
  · decide
  split
  · decide
  split
  · decide
  split <;> decide
theorem pl_eq : ∀ {L : pl_T}, pl p q L → (∀ i, i < L.length → p' i = p i ∧ q' i = q i) → pl p' q' L
  | [], _, _ => trivial
  | x :: r, h, e => by
    have e1 := e r.length (by rw [List.length_cons]; omega)
    exact ⟨⟨by rw [e1.1]; exact h.1.1, by rw [e1.2]; exact h.1.2⟩, h.2.1, pl_eq h.2.2 (fun i hi => e i (by rw [List.length_cons]; omega))⟩
theorem n_binds (hop : op < 32) : ms_Cl (d + 1) 183 [.int (nI op)] g (some (.int (nI (bd op)))) g := by
  refine m_X9_binds (Nat.le_refl _) (Nat.le_refl _) (b_X9_binds_0 (Q := ms_lf _ _) ?_)
  rw [show (30 : Int32) = nI 30 from rfl, show (29 : Int32) = nI 29 from rfl, show (28 : Int32) = nI 28 from rfl, show (27 : Int32) = nI 27 from rfl, show (24 : Int32) = nI 24 from rfl, show (22 : Int32) = nI 22 from rfl]
  by_cases h30 : 30 ≤ op
  · have e : bd op = 0 := if_pos h30
    rw [e]
    exact ms_no (fun z => by rw [ms_nlt (by omega) (by decide)] at z; omega) ⟨rfl, rfl⟩
  refine ms_yes (by rw [ms_nlt (by omega) (by decide)]; omega) ?_
  by_cases h29 : op = 29
  · have e : bd op = 1 := by unfold bd; rw [if_neg h30, if_pos h29]
    rw [e]
    exact ms_yes (by rw [h29]) ⟨rfl, rfl⟩
  refine ms_no (fun z => by rw [ms_nI_eq (by omega) (by decide)] at z; exact h29 z) ?_
  by_cases h28 : op = 28
  · have e : bd op = 2 := by unfold bd; rw [if_neg h30, if_neg h29, if_pos h28]
    rw [e]
    exact ms_yes (by rw [h28]) ⟨rfl, rfl⟩
  refine ms_no (fun z => by rw [ms_nI_eq (by omega) (by decide)] at z; exact h28 z) ?_
  by_cases h27 : op = 27
  · have e : bd op = 3 := by unfold bd; rw [if_neg h30, if_neg h29, if_neg h28, if_pos h27]
    rw [e]
    exact ms_yes (by rw [h27]) ⟨rfl, rfl⟩
  refine ms_no (fun z => by rw [ms_nI_eq (by omega) (by decide)] at z; exact h27 z) ?_
  by_cases h24 : 24 ≤ op
  · have e : bd op = 4 := by unfold bd; rw [if_neg h30, if_neg h29, if_neg h28, if_neg h27, if_pos h24]
    rw [e]
    exact ms_no (fun z => by rw [ms_nlt (by omega) (by decide)] at z; omega) ⟨rfl, rfl⟩
  refine ms_yes (by rw [ms_nlt (by omega) (by decide)]; omega) ?_
  by_cases h22 : 22 ≤ op
  · have e : bd op = 6 := by unfold bd; rw [if_neg h30, if_neg h29, if_neg h28, if_neg h27, if_neg h24, if_pos h22]
    rw [e]
    exact ms_no (fun z => by rw [ms_nlt (by omega) (by decide)] at z; omega) ⟨rfl, rfl⟩
  · have e : bd op = 5 := by unfold bd; rw [if_neg h30, if_neg h29, if_neg h28, if_neg h27, if_neg h24, if_neg h22]
    rw [e]
    exact ms_yes (by rw [ms_nlt (by omega) (by decide)]; omega) ⟨rfl, rfl⟩
theorem n_emit (hM : MP c L o a M) (hc : c < 400) : ms_Cl (d + 1) 181 [.ref h.length, .int (nI op), .int (nI arg)] (ms_m h M t) none (ms_m h (emM M c op arg) t) := by
  refine m_X9_emit ms_m_l ms_m_t ⟨_, ms_m_0⟩ (b_X9_emit_0 (Q := ms_lf _ _) (ms_oR_i mm_f18 (ms_oI_i mm_f17 ?_)))
  rw [hM.1, mm_w18]
  refine ⟨ms_in hc (by decide), ?_⟩
  rw [ms_nc (by omega)]
  refine ms_oR_i mm_f19 (ms_oI_i mm_f17 ?_)
  rw [show md_i (md_ua M 18 c (nI op)) 17 = md_i M 17 from rfl, hM.1, mm_w19]
  refine ⟨ms_in hc (by decide), ?_⟩
  rw [ms_nc (by omega)]
  refine ms_oI_i mm_f17 ?_
  rw [show md_i (md_ua (md_ua M 18 c (nI op)) 19 c (nI arg)) 17 = md_i M 17 from rfl, hM.1, show nI c + 1 = nI (c + 1) from ms_p1 1, mm_p17]
  exact ⟨rfl, rfl⟩
theorem em_fr {S : Nat → Bool} (f : md_fr S M0 M) (h1 : S 17 = true) (h2 : S 18 = true) (h3 : S 19 = true) : md_fr S M0 (emM M c op arg) := mr_i (mr_a (mr_a f h2) h3) h1
theorem pu_fr {S : Nat → Bool} (f : md_fr S M0 M) (h1 : S 21 = true) (h2 : S 22 = true) (h3 : S 23 = true) : md_fr S M0 (puM M k op pos) := mr_i (mr_a (mr_a f h1) h2) h3
theorem emM_i {k : Nat} (hk : k ≠ 17) : md_i (emM M c op arg) k = md_i M k := md_i_ne hk
theorem pu_i {j : Nat} (hj : j ≠ 23) : md_i (puM M k op pos) j = md_i M j := md_i_ne hj
theorem em_MP (hM : MP c L o a M) (hc : c + L.length < 400) (hop : op < 30) (harg : arg < 2 ^ 30) : MP (c + 1) L (fun i => if i = c then op else o i) (fun i => if i = c then arg else a i) (emM M c op arg) := by
  obtain ⟨h1, h2, h3, h4, h5⟩ := hM
  refine ⟨md_i_at, by rw [emM_i (by decide)]; exact h2, by omega, fun i hi => ?_, h5⟩
  refine ⟨⟨?_, ?_⟩, ?_, ?_⟩
  · show md_a (md_ua (md_ua M 18 c (nI op)) 19 c (nI arg)) 18 i = nI (if i = c then op else o i)
    rw [md_a_ua, if_neg (show ¬ (18 = 19 ∧ i = c) by omega), md_a_ua]
    by_cases hic : i = c
    · rw [if_pos (show 18 = 18 ∧ i = c from ⟨rfl, hic⟩), if_pos hic]
    · rw [if_neg (show ¬ (18 = 18 ∧ i = c) from fun z => hic z.2), if_neg hic]
      exact (h4 i (by omega)).1.1
  · show md_a (md_ua (md_ua M 18 c (nI op)) 19 c (nI arg)) 19 i = nI (if i = c then arg else a i)
    rw [md_a_ua]
    by_cases hic : i = c
    · rw [if_pos (show 19 = 19 ∧ i = c from ⟨rfl, hic⟩), if_pos hic]
    · rw [if_neg (show ¬ (19 = 19 ∧ i = c) from fun z => hic z.2), if_neg hic, md_a_ua, if_neg (show ¬ (19 = 18 ∧ i = c) by omega)]
      exact (h4 i (by omega)).1.2
  · show (if i = c then op else o i) < 30
    by_cases hic : i = c
    · rw [if_pos hic]; exact hop
    · rw [if_neg hic]; exact (h4 i (by omega)).2.1
  · show (if i = c then arg else a i) < 2 ^ 30
    by_cases hic : i = c
    · rw [if_pos hic]; exact harg
    · rw [if_neg hic]; exact (h4 i (by omega)).2.2
theorem n_push (hM : MP c L o a M) (hc : L.length < 400) : ms_Cl (d + 1) 182 [.ref h.length, .int (nI op), .int (nI pos)] (ms_m h M t) none (ms_m h (puM M L.length op pos) t) := by
  refine m_X9_push ms_m_l ms_m_t ⟨_, ms_m_0⟩ (b_X9_push_0 (Q := ms_lf _ _) (ms_oR_i mm_f21 (ms_oI_i mm_f23 ?_)))
  rw [hM.2.1, mm_w21]
  refine ⟨ms_in hc (by decide), ?_⟩
  rw [ms_nc (by omega)]
  refine ms_oR_i mm_f22 (ms_oI_i mm_f23 ?_)
  rw [show md_i (md_ua M 21 L.length (nI op)) 23 = md_i M 23 from rfl, hM.2.1, mm_w22]
  refine ⟨ms_in hc (by decide), ?_⟩
  rw [ms_nc (by omega)]
  refine ms_oI_i mm_f23 ?_
  rw [show md_i (md_ua (md_ua M 21 L.length (nI op)) 22 L.length (nI pos)) 23 = md_i M 23 from rfl, hM.2.1, show nI L.length + 1 = nI (L.length + 1) from ms_p1 1, mm_p23]
  exact ⟨rfl, rfl⟩
theorem pu_MP (hM : MP c L o a M) (hc : c + L.length < 400) (hop : 20 ≤ op ∧ op < 32) (hpos : pos < 400) : MP c ((op, pos) :: L) o a (puM M L.length op pos) := by
  obtain ⟨h1, h2, h3, h4, h5⟩ := hM
  refine ⟨by rw [pu_i (by decide)]; exact h1, md_i_at, by rw [List.length_cons]; omega, h4, ⟨?_, ?_⟩, ⟨hop.1, hop.2, hpos⟩, pl_eq h5 (fun i hi => ⟨?_, ?_⟩)⟩
  · show md_a (md_ua (md_ua M 21 L.length (nI op)) 22 L.length (nI pos)) 21 L.length = nI op
    rw [md_a_ua, if_neg (by omega), md_a_at]
  · show md_a (md_ua (md_ua M 21 L.length (nI op)) 22 L.length (nI pos)) 22 L.length = nI pos
    rw [md_a_at]
  · show md_a (md_ua (md_ua M 21 L.length (nI op)) 22 L.length (nI pos)) 21 i = md_a M 21 i
    rw [md_a_ua, if_neg (by omega), md_a_ne (by omega)]
  · show md_a (md_ua (md_ua M 21 L.length (nI op)) 22 L.length (nI pos)) 22 i = md_a M 22 i
    rw [md_a_ne (by omega), md_a_ua, if_neg (by omega)]
theorem po_MP (hM : MP c (x :: L) o a M) : MP c L o a (md_ui M 23 (nI L.length)) := by
  obtain ⟨h1, h2, h3, h4, h5⟩ := hM
  rw [List.length_cons] at h3
  exact ⟨by rw [md_i_ne (by decide)]; exact h1, md_i_at, by omega, h4, h5.2.2⟩
theorem pa_MP (hM : MP c L o a M) (hk : k < 400) : MP c L o (fun i => if i = k then c else a i) (md_ua M 19 k (nI c)) := by
  obtain ⟨h1, h2, h3, h4, h5⟩ := hM
  refine ⟨h1, h2, h3, fun i hi => ?_, h5⟩
  refine ⟨⟨?_, ?_⟩, ?_, ?_⟩
  · rw [md_a_ua, if_neg (show ¬ (18 = 19 ∧ i = k) by omega)]
    exact (h4 i hi).1.1
  · show md_a (md_ua M 19 k (nI c)) 19 i = nI (if i = k then c else a i)
    rw [md_a_ua]
    by_cases hik : i = k
    · rw [if_pos (show 19 = 19 ∧ i = k from ⟨rfl, hik⟩), if_pos hik]
    · rw [if_neg (show ¬ (19 = 19 ∧ i = k) from fun z => hik z.2), if_neg hik]
      exact (h4 i hi).1.2
  · exact (h4 i hi).2.1
  · show (if i = k then c else a i) < 2 ^ 30
    by_cases hik : i = k
    · rw [if_pos hik]; omega
    · rw [if_neg hik]; exact (h4 i hi).2.2
theorem n_settle0 (hle : 1 ≤ le) (hle2 : le < 8) : ∀ (Q : pl_T) (M : md_T) (c : Nat) (o a : Nat → Nat), md_fr gSt M0 M → MP c (Q ++ P) o a M → (∀ x, x ∈ Q → le ≤ bd x.1) → bt P < le → ms_V cd_X9_settle none 0 (ms_Cl (d + 1)) (gN gSt h M0 t (MP (sq Q o a c).2.2 P (sq Q o a c).1 (sq Q o a c).2.1)) 0 [(0, .ref h.length), (1, .int (nI le))] [] (ms_m h M t) := by
  intro Q
  induction Q with
  | nil =>
    intro M c o a f hM hQ hb
    have hM0 : MP c P o a M := hM
    obtain ⟨h1, h2, h3, h4, h5⟩ := hM
    have h2 : md_i M 23 = nI P.length := h2
    refine b_X9_settle_0 (ms_oI_i mm_f23 ?_)
    rw [h2]
    cases P with
    | nil => exact ms_yes (by decide) ⟨M, f, rfl, rfl, hM0⟩
    | cons x r =>
      have h3 : c + (r.length + 1) ≤ 400 := h3
      rw [List.length_cons]
      refine ms_no (fun z => by rw [show (0 : Int32) = nI 0 from rfl, ms_nle (by omega) (by decide)] at z; omega) (ms_oR_i mm_f21 (ms_oI_i mm_f23 ?_))
      rw [h2, List.length_cons, ms_nI_m1, mm_r21]
      refine ⟨ms_in (by omega) (by decide), ?_⟩
      rw [ms_nc (by omega), h5.1.1]
      refine ms_c1_i (n_binds h5.2.1.2.1) (ms_yes ?_ ⟨M, f, rfl, rfl, hM0⟩)
      rw [ms_nlt (by have := bd7 x.1; omega) (by omega)]
      exact hb
  | cons x Q ih =>
    intro M c o a f hM hQ hb
    have hM0 : MP c (x :: (Q ++ P)) o a M := hM
    obtain ⟨h1, h2, h3, h4, h5⟩ := hM0
    rw [List.length_cons] at h2 h3
    have hx := hQ x List.mem_cons_self
    have hx30 := bd_lt (show 1 ≤ bd x.1 by omega)
    refine b_X9_settle_0 (ms_oI_i mm_f23 ?_)
    rw [h2]
    refine ms_no (fun z => by rw [show (0 : Int32) = nI 0 from rfl, ms_nle (by omega) (by decide)] at z; omega) (ms_oR_i mm_f21 (ms_oI_i mm_f23 ?_))
    rw [h2, ms_nI_m1, mm_r21]
    refine ⟨ms_in (by omega) (by decide), ?_⟩
    rw [ms_nc (by omega), h5.1.1]
    refine ms_c1_i (n_binds h5.2.1.2.1) (ms_no (fun z => by rw [ms_nlt (by have := bd7 x.1; omega) (by omega)] at z; omega) (ms_oI_i mm_f23 ?_))
    rw [h2, ms_nI_m1, mm_p23]
    have hM1 := po_MP (x := x) (L := Q ++ P) (M := M) (c := c) (o := o) (a := a) hM
    have hf1 : md_fr gSt M0 (md_ui M 23 (nI (Q ++ P).length)) := mr_i f rfl
    have e21 : ∀ n, md_a (md_ui M 23 (nI (Q ++ P).length)) 21 n = md_a M 21 n := fun n => rfl
    have e22 : ∀ n, md_a (md_ui M 23 (nI (Q ++ P).length)) 22 n = md_a M 22 n := fun n => rfl
    generalize md_ui M 23 (nI (Q ++ P).length) = M1 at hM1 hf1 e21 e22 ⊢
    refine ms_oR_i mm_f21 (ms_oI_i mm_f23 ?_)
    rw [hM1.2.1, mm_r21]
    refine ⟨ms_in (by omega) (by decide), ?_⟩
    rw [ms_nc (by omega), e21, h5.1.1]
    have patch : (x.1 = 28 ∨ x.1 = 29) → ms_oR (ms_fldR (ms_m h M1 t) h.length 9 19) fun x12 => ms_oR (ms_fldR (ms_m h M1 t) h.length 9 22) fun x13 => ms_oI (ms_fldI (ms_m h M1 t) h.length 9 23) fun x14 => ms_rI (ms_m h M1 t) x13 0 x14 fun x15 => ms_oI (ms_fldI (ms_m h M1 t) h.length 9 17) fun x16 => ms_wI (ms_m h M1 t) x12 x15 x16 fun g17 => ms_V cd_X9_settle none 0 (ms_Cl (d + 1)) (gN gSt h M0 t (MP (sq (x :: Q) o a c).2.2 P (sq (x :: Q) o a c).1 (sq (x :: Q) o a c).2.1)) 0 [(0, .ref h.length), (1, .int (nI le))] [] g17 := by
      intro hxx
      refine ms_oR_i mm_f19 (ms_oR_i mm_f22 (ms_oI_i mm_f23 ?_))
      rw [hM1.2.1, mm_r22]
      refine ⟨ms_in (by omega) (by decide), ?_⟩
      rw [ms_nc (by omega), e22, h5.1.2]
      refine ms_oI_i mm_f17 ?_
      rw [hM1.1, mm_w19]
      refine ⟨ms_in h5.2.1.2.2 (by decide), ?_⟩
      rw [ms_nc (by have := h5.2.1.2.2; omega)]
      have := ih (md_ua M1 19 x.2 (nI c)) c o (fun i => if i = x.2 then c else a i) (mr_a hf1 rfl) (pa_MP hM1 h5.2.1.2.2) (fun y hy => hQ y (List.mem_cons_of_mem _ hy)) hb
      rw [sq, if_pos hxx]
      exact this
    by_cases h28 : x.1 = 28
    · exact ms_yes (by rw [h28]; rfl) (patch (Or.inl h28))
    refine ms_no (fun z => by rw [show (28 : Int32) = nI 28 from rfl, ms_nI_eq (by omega) (by decide)] at z; exact h28 z) (ms_oR_i mm_f21 (ms_oI_i mm_f23 ?_))
    rw [hM1.2.1, mm_r21]
    refine ⟨ms_in (by omega) (by decide), ?_⟩
    rw [ms_nc (by omega), e21, h5.1.1]
    by_cases h29 : x.1 = 29
    · exact ms_yes (by rw [h29]; rfl) (patch (Or.inr h29))
    refine ms_no (fun z => by rw [show (29 : Int32) = nI 29 from rfl, ms_nI_eq (by omega) (by decide)] at z; exact h29 z) (ms_oR_i mm_f21 (ms_oI_i mm_f23 ?_))
    rw [hM1.2.1, mm_r21]
    refine ⟨ms_in (by omega) (by decide), ?_⟩
    rw [ms_nc (by omega), e21, h5.1.1, show (0 : Int32) = nI 0 from rfl]
    refine ms_c0_i (n_emit hM1 (by omega)) ?_
    have := ih (emM M1 c x.1 0) (c + 1) (fun i => if i = c then x.1 else o i) (fun i => if i = c then 0 else a i) (em_fr hf1 rfl rfl rfl) (em_MP hM1 (by omega) hx30 (by decide)) (fun y hy => hQ y (List.mem_cons_of_mem _ hy)) hb
    rw [sq, if_neg (by omega)]
    exact this
theorem n_settle (hle : 1 ≤ le) (hle2 : le < 8) (hM : MP c (Q ++ P) o a M) (hQ : ∀ x, x ∈ Q → le ≤ bd x.1) (hb : bt P < le) : ms_H' (d + 2) 184 [.ref h.length, .int (nI le)] (ms_m h M t) (gN gSt h M t (MP (sq Q o a c).2.2 P (sq Q o a c).1 (sq Q o a c).2.1)) :=
  mx_m (fun a b c => m_X9_settle a b ⟨_, ms_m_0⟩ c) gN_l (n_settle0 hle hle2 Q M c o a mr_0 hM hQ hb)
theorem n_inner (hM : MP c L o a M) : ms_Cl (d + 1) 185 [.ref h.length] (ms_m h M t) (some (.int (ib L))) (ms_m h M t) := by
  obtain ⟨h1, h2, h3, h4, h5⟩ := hM
  refine m_X9_inner (Nat.le_refl _) (Nat.le_refl _) ⟨_, ms_m_0⟩ (b_X9_inner_0 (Q := ms_lf _ _) ?_)
  have pd : ∀ (k : Nat) (L : pl_T), pl (md_a M 21) (md_a M 22) L → pl (md_a M 21) (md_a M 22) (L.drop k) := by
    intro k
    induction k with
    | zero => intro L h; exact h
    | succ k ih =>
      intro L h
      cases L with
      | nil => exact trivial
      | cons x r => exact ih r h.2.2
  suffices H : ∀ r, r ≤ L.length → ms_V cd_X9_inner none 1 (ms_Cl d) (ms_lf (some (.int (ib L))) (ms_m h M t)) 4 [(0, .ref h.length), (1, .int (ib (L.drop r))), (2, .int (nI (L.length - r)))] [] (ms_m h M t) by
    have := H L.length (Nat.le_refl _)
    rw [List.drop_length, Nat.sub_self] at this
    exact this
  intro r
  induction r with
  | zero =>
    intro _
    refine b_X9_inner_4 (ms_oI_i mm_f23 ?_)
    rw [h2]
    exact ms_yes (Int32.le_refl _) ⟨rfl, rfl⟩
  | succ r ih =>
    intro hr
    have hd := List.drop_eq_getElem_cons (l := L) (i := r) (by omega)
    have hp := pd r L h5
    have ih' := ih (by omega)
    have hl : (L.drop (r + 1)).length = L.length - (r + 1) := List.length_drop
    rw [hd] at hp ih'
    obtain ⟨hp1, hp2, hp3⟩ := hp
    rw [hl] at hp1
    rw [ib] at ih'
    refine b_X9_inner_4 (ms_oI_i mm_f23 ?_)
    rw [h2]
    refine ms_no (fun z => by rw [ms_nle (by omega) (by omega)] at z; omega) (ms_oR_i mm_f21 ?_)
    rw [mm_r21]
    refine ⟨ms_in (by omega) (by decide), ?_⟩
    rw [ms_nc (by omega), hp1.1, show nI (L.length - (r + 1)) + 1 = nI (L.length - r) by rw [show nI (L.length - (r + 1)) + 1 = nI (L.length - (r + 1) + 1) from ms_p1 1]; congr 1; omega, show (30 : Int32) = nI 30 from rfl]
    refine ms_ite2 (fun z => ?_) (fun z => ?_) <;> rw [ms_nlt (by omega) (by decide)] at z
    · rw [if_neg (by omega)] at ih'
      exact ih'
    · rw [if_pos (by omega)] at ih'
      refine ms_oR_i mm_f21 ?_
      rw [mm_r21]
      refine ⟨ms_in (by omega) (by decide), ?_⟩
      rw [ms_nc (by omega), hp1.1]
      exact ih'
theorem n_isCompared (hM : MP c L o a M) : ms_Cl (d + 2) 186 [.ref h.length] (ms_m h M t) (some (.int (ms_bi (isc L)))) (ms_m h M t) := by
  obtain ⟨h1, h2, h3, h4, h5⟩ := hM
  refine m_X9_isCompared (Nat.le_refl _) (Nat.le_refl _) ⟨_, ms_m_0⟩ (b_X9_isCompared_0 (Q := ms_lf _ _) (ms_oI_i mm_f23 ?_))
  rw [h2]
  have H : ∀ L : pl_T, L.length ≤ 400 → pl (md_a M 21) (md_a M 22) L → ms_V cd_X9_isCompared none 4 (ms_Cl (d + 1)) (ms_lf (some (.int (ms_bi (isc L)))) (ms_m h M t)) 7 [(0, .ref h.length), (1, .int (nI L.length - 1))] [] (ms_m h M t) := by
    intro L
    induction L with
    | nil =>
      intro _ _
      exact b_X9_isCompared_7 (ms_yes (by decide) (ms_yes (by decide) ⟨(by first | exact Or.inr rfl | exact Or.inl rfl | exact Or.inl trivial | exact Or.inr trivial | trivial), rfl, rfl⟩))
    | cons x r ih =>
      intro hl hp
      obtain ⟨hp1, hp2, hp3⟩ := hp
      have hl : r.length + 1 ≤ 400 := hl
      rw [List.length_cons, ms_nI_m1]
      have n0 : ¬ nI r.length < 0 := Int32.not_lt.mpr (ms_nI_0 (by omega))
      refine b_X9_isCompared_7 (ms_no n0 (ms_oR_i mm_f21 ?_))
      rw [mm_r21]
      refine ⟨ms_in (by omega) (by decide), ?_⟩
      rw [ms_nc (by omega), hp1.1]
      refine ms_c1_i (c9_inI 20 23 (by decide) (by decide)) (ms_ifT (fun z => ms_no n0 (ms_oR_i mm_f21 ?_)) (fun z => ?_))
      · have z24 : 24 ≤ x.1 := by
          unfold md_in at z
          rw [show (20 : Int32) = nI 20 from rfl, show (23 : Int32) = nI 23 from rfl, decide_eq_true ((ms_nle (by decide) (by omega)).mpr hp2.1), Bool.true_and] at z
          have := of_decide_eq_false z
          rw [ms_nle (by omega) (by decide)] at this
          omega
        rw [mm_r21]
        refine ⟨ms_in (by omega) (by decide), ?_⟩
        rw [ms_nc (by omega), hp1.1, isc, if_neg (by omega)]
        refine ms_c1_i (c9_inI 24 26 (by decide) (by decide)) ?_
        have e : md_in (nI x.1) 24 26 = decide (x.1 < 27) := by
          unfold md_in
          rw [show (24 : Int32) = nI 24 from rfl, show (26 : Int32) = nI 26 from rfl, decide_eq_true ((ms_nle (by decide) (by omega)).mpr z24), Bool.true_and]
          refine decide_eq_decide.mpr ?_
          rw [ms_nle (by omega) (by decide)]
          omega
        rw [e]
        refine ms_ifT (fun z => ?_) (fun z => ?_) <;> rw [z]
        · exact ⟨(by first | exact Or.inr rfl | exact Or.inl rfl | exact Or.inl trivial | exact Or.inr trivial | trivial), rfl, rfl⟩
        · exact ⟨(by first | exact Or.inr rfl | exact Or.inl rfl | exact Or.inl trivial | exact Or.inr trivial | trivial), rfl, rfl⟩
      · have z24 : x.1 < 24 := by
          unfold md_in at z
          have := of_decide_eq_true (Bool.and_eq_true _ _ ▸ z).2
          rw [show (23 : Int32) = nI 23 from rfl, ms_nle (by omega) (by decide)] at this
          omega
        have := ih (by omega) hp3
        rw [isc, if_pos z24]
        rw [show nI r.length + -1 = nI r.length - 1 from (Int32.sub_eq_add_neg _ _).symm]
        exact this
  exact H L (by omega) h5
end Mp
