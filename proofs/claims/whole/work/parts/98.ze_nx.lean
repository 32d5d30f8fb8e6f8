/-! THE MODEL'S next: the token at hand; written by wip/whole/mdl.py from ze_nx.txt -/
/-- a number as the model reads it -/
def dd (b : Nat → Nat) (s : Nat) : Nat → Nat
  | 0 => 0
  | f + 1 => if 1000000 < dd b s f then dd b s f else dd b s f * 10 + (b (s + f) - 48)
def wthL (x : Int64) (l : List Nat) : Prop := if l.length ≤ 10 then isL x (hr l.reverse) else x = -1
def gTk (k : Nat) : Bool := decide (9 ≤ k ∧ k ≤ 14)
/-- the tape holds so many bytes -/
def TP (M : md_T) (b : Nat → Nat) (n : Nat) : Prop := n ≤ 400 ∧ md_i M 8 = nI n ∧ ∀ k, k < n → md_a M 7 k = nI (b k) ∧ b k < 256
def skp (b : Nat → Nat) (n s : Nat) : Nat := run (fun c => decide (c = 32)) b n n s
/-- the token at hand, read from s on -/
def TK (b : Nat → Nat) (n s : Nat) (N : md_T) : Prop := md_i N 9 = nI (skp b n s) ∧
  ((n ≤ skp b n s ∧ md_i N 11 = 0 ∧ md_i N 10 = nI (skp b n s)) ∨
   (skp b n s < n ∧ ltr (b (skp b n s)) = true ∧ md_i N 11 = 1 ∧ md_i N 10 = nI (run ltr b n n (skp b n s + 1)) ∧ wthL (md_l N 12) (byts b (skp b n s) (run ltr b n n (skp b n s + 1)))) ∨
   (skp b n s < n ∧ ltr (b (skp b n s)) = false ∧ dgt (b (skp b n s)) = true ∧ md_i N 11 = 2 ∧ md_i N 10 = nI (run dgt b n n (skp b n s + 1)) ∧ isL (md_l N 12) (dd b (skp b n s) (run dgt b n n (skp b n s + 1) - skp b n s))) ∨
   (skp b n s < n ∧ ltr (b (skp b n s)) = false ∧ dgt (b (skp b n s)) = false ∧ md_i N 11 = 3 ∧ md_i N 10 = nI (skp b n s + 1) ∧ isL (md_l N 12) (b (skp b n s))))
section Nx
variable {b : Nat → Nat} {n s e f k c d p : Nat} {l : List Nat} {P : Nat → Bool} {h t : ms_S} {M N : md_T} {g : ms_S}
theorem dd_nmb : ∀ f, min (dd b s f) 100001 = nmb b s f
  | 0 => rfl
  | f + 1 => by
    have ih := dd_nmb f
    show min (if 1000000 < dd b s f then dd b s f else dd b s f * 10 + (b (s + f) - 48)) 100001 = min (nmb b s f * 10 + (b (s + f) - 48)) 100001
    rw [← ih]
    split <;> omega
theorem dd_le : ∀ f, (∀ k, b k < 256) → dd b s f ≤ 20000000
  | 0, _ => Nat.zero_le _
  | f + 1, h => by
    have ih := dd_le f h
    have := h (s + f)
    show (if 1000000 < dd b s f then dd b s f else dd b s f * 10 + (b (s + f) - 48)) ≤ _
    split <;> omega
theorem hr_lt : ∀ l : List Nat, (∀ c, c ∈ l → ltr c = true) → hr l < 32 ^ l.length
  | [], _ => by decide
  | c :: r, h1 => by
    have a1 := of_decide_eq_true (h1 c List.mem_cons_self)
    have ih := hr_lt r (fun x hx => h1 x (List.mem_cons_of_mem _ hx))
    show hr r * 32 + (c - 96) < 32 ^ (r.length + 1)
    rw [Nat.pow_succ]
    omega
theorem byts_s (h : s ≤ e) : byts b s (e + 1) = byts b s e ++ [b e] := by
  unfold byts
  rw [show e + 1 - s = (e - s) + 1 by omega, List.range_succ, List.map_append]
  show _ ++ [b (s + (e - s))] = _
  rw [show s + (e - s) = e by omega]
theorem byts_len : (byts b s e).length = e - s := by
  unfold byts
  rw [List.length_map, List.length_range]
theorem n_small (hc : c < 256) : ms_Cl (d + 1) 173 [.int (nI c)] g (some (.int (ms_bi (ltr c)))) g := by
  refine m_X9_isSmall (Nat.le_refl _) (Nat.le_refl _) (b_X9_isSmall_0 (Q := ms_lf _ _) ?_)
  rw [show (97 : Int32) = nI 97 from rfl, show (122 : Int32) = nI 122 from rfl]
  refine ms_ite2 (fun z => ?_) (fun z => ?_) <;> rw [ms_nlt (by omega) (by omega)] at z
  · rw [show ltr c = false from decide_eq_false (by omega)]
    exact ⟨(by first | exact Or.inr rfl | exact Or.inl rfl | exact Or.inl trivial | exact Or.inr trivial | trivial), rfl, rfl⟩
  refine ms_ite2 (fun z2 => ?_) (fun z2 => ?_) <;> rw [ms_nlt (by omega) (by omega)] at z2
  · rw [show ltr c = false from decide_eq_false (by omega)]
    exact ⟨(by first | exact Or.inr rfl | exact Or.inl rfl | exact Or.inl trivial | exact Or.inr trivial | trivial), rfl, rfl⟩
  · rw [show ltr c = true from decide_eq_true (by omega)]
    exact ⟨(by first | exact Or.inr rfl | exact Or.inl rfl | exact Or.inl trivial | exact Or.inr trivial | trivial), rfl, rfl⟩
theorem n_digit (hc : c < 256) : ms_Cl (d + 1) 174 [.int (nI c)] g (some (.int (ms_bi (dgt c)))) g := by
  refine m_X9_isDigit (Nat.le_refl _) (Nat.le_refl _) (b_X9_isDigit_0 (Q := ms_lf _ _) ?_)
  rw [show (48 : Int32) = nI 48 from rfl, show (57 : Int32) = nI 57 from rfl]
  refine ms_ite2 (fun z => ?_) (fun z => ?_) <;> rw [ms_nlt (by omega) (by omega)] at z
  · rw [show dgt c = false from decide_eq_false (by omega)]
    exact ⟨(by first | exact Or.inr rfl | exact Or.inl rfl | exact Or.inl trivial | exact Or.inr trivial | trivial), rfl, rfl⟩
  refine ms_ite2 (fun z2 => ?_) (fun z2 => ?_) <;> rw [ms_nlt (by omega) (by omega)] at z2
  · rw [show dgt c = false from decide_eq_false (by omega)]
    exact ⟨(by first | exact Or.inr rfl | exact Or.inl rfl | exact Or.inl trivial | exact Or.inr trivial | trivial), rfl, rfl⟩
  · rw [show dgt c = true from decide_eq_true (by omega)]
    exact ⟨(by first | exact Or.inr rfl | exact Or.inl rfl | exact Or.inl trivial | exact Or.inr trivial | trivial), rfl, rfl⟩
theorem TP_fr (h : TP M b n) (f : md_fr gTk M N) : TP N b n := by
  have e8 : md_i N 8 = md_i M 8 := (f 8 (by decide)).1
  have e7 : md_a N 7 = md_a M 7 := mr_a3 f (by decide)
  unfold TP
  rw [e8, e7]
  exact h
def g12 (k : Nat) : Bool := decide (9 ≤ k ∧ k ≤ 12)
theorem run_fu : ∀ f f' s, n ≤ s + f → n ≤ s + f' → run P b n f s = run P b n f' s
  | 0, 0, s, _, _ => rfl
  | 0, f' + 1, s, h1, h2 => by
    show s = if s < n ∧ P (b s) = true then run P b n f' (s + 1) else s
    rw [if_neg (fun z => by omega)]
  | f + 1, 0, s, h1, h2 => by
    show (if s < n ∧ P (b s) = true then run P b n f (s + 1) else s) = s
    rw [if_neg (fun z => by omega)]
  | f + 1, f' + 1, s, h1, h2 => by
    show (if s < n ∧ P (b s) = true then run P b n f (s + 1) else s) = if s < n ∧ P (b s) = true then run P b n f' (s + 1) else s
    rw [run_fu f f' (s + 1) (by omega) (by omega)]
theorem run_yes (hs : s < n) (hp : P (b s) = true) : run P b n n s = run P b n n (s + 1) := by
  rw [run_fu n (n + 1) s (by omega) (by omega)]
  show (if s < n ∧ P (b s) = true then run P b n n (s + 1) else s) = _
  rw [if_pos ⟨hs, hp⟩]
theorem run_no (hn : ¬ (s < n ∧ P (b s) = true)) : run P b n n s = s := by
  rw [run_fu n (n + 1) s (by omega) (by omega)]
  show (if s < n ∧ P (b s) = true then run P b n n (s + 1) else s) = _
  rw [if_neg hn]
theorem TP_i {q : Nat} {v : Int32} (h : TP M b n) (hq : q ≠ 8) : TP (md_ui M q v) b n := ⟨h.1, by rw [md_i_ne hq.symm]; exact h.2.1, h.2.2⟩
theorem TP_l {q : Nat} {v : Int64} (h : TP M b n) : TP (md_ul M q v) b n := h
theorem md_i_ul {q r : Nat} {v : Int64} : md_i (md_ul M q v) r = md_i M r := rfl
theorem md_l_ui {q r : Nat} {v : Int32} : md_l (md_ui M q v) r = md_l M r := rfl
/-- a run of digits -/
theorem n_next243 : ∀ r e N, e + r = n → md_fr g12 M N → TP N b n → md_i N 11 = 2 → md_i N 9 = nI p → md_i N 10 = nI e → p ≤ e → (∀ i, p ≤ i → i < e → dgt (b i) = true) → isL (md_l N 12) (dd b p (e - p)) → ms_V cd_X9_next none 0 (ms_Cl (d + 1)) (gN g12 h M t (fun L => md_i L 9 = nI p ∧ md_i L 11 = 2 ∧ md_i L 10 = nI (run dgt b n n e) ∧ isL (md_l L 12) (dd b p (run dgt b n n e - p)))) 243 [(0, .ref h.length)] [] (ms_m h N t) := by
  intro r
  induction r with
  | zero =>
    intro e N he hf hT h11 h9 h10 hpe hall hl
    have hn := hT.1
    refine b_X9_next_243 (ms_oI_i mm_f11 (ms_yes h11 (ms_oI_i mm_f10 (ms_oI_i mm_f8 ?_))))
    rw [h10, hT.2.1]
    refine ms_yes ((ms_nle (by omega) (by omega)).mpr (by omega)) ⟨N, hf, rfl, rfl, h9, h11, ?_⟩
    rw [run_no (fun z => by omega)]
    exact ⟨h10, hl⟩
  | succ r ih =>
    intro e N he hf hT h11 h9 h10 hpe hall hl
    have hn := hT.1
    have hb := (hT.2.2 e (by omega)).2
    have hd := dd_le (b := fun k => if k < n then b k else 0) (s := p) (e - p) (fun k => by split <;> first | exact (hT.2.2 k (by assumption)).2 | decide)
    refine b_X9_next_243 (ms_oI_i mm_f11 (ms_yes h11 (ms_oI_i mm_f10 (ms_oI_i mm_f8 ?_))))
    rw [h10, hT.2.1]
    refine ms_no (fun z => by rw [ms_nle (by omega) (by omega)] at z; omega) ?_
    simp only [ms_oR_e, ms_oI_e, ms_oL_e, mm_f7, mm_r7, mm_w7]
    refine ms_oI_i mm_f10 ?_
    rw [h10]
    refine ⟨ms_in (by omega) (by decide), ?_⟩
    rw [ms_nc (by omega), (hT.2.2 e (by omega)).1]
    refine ms_c1_i (n_digit hb) (ms_ifT (fun hg => ?_) (fun hg => ?_))
    · refine ⟨N, hf, rfl, rfl, h9, h11, ?_⟩
      rw [run_no (fun z => by rw [hg] at z; exact absurd z.2 (by decide))]
      exact ⟨h10, hl⟩
    · have hdg := of_decide_eq_true hg
      rw [run_yes (by omega) hg]
      have hall2 : ∀ i, p ≤ i → i < e + 1 → dgt (b i) = true := fun i h1 h2 => by
        by_cases hi : i = e
        · rw [hi]; exact hg
        · exact hall i h1 (by omega)
      have hddeq : ∀ f, p + f ≤ e → dd (fun k => if k < n then b k else 0) p f = dd b p f := by
        intro f
        induction f with
        | zero => intro _; rfl
        | succ f ih2 =>
          intro hf2
          show (if 1000000 < dd (fun k => if k < n then b k else 0) p f then dd (fun k => if k < n then b k else 0) p f else dd (fun k => if k < n then b k else 0) p f * 10 + ((if p + f < n then b (p + f) else 0) - 48)) = if 1000000 < dd b p f then dd b p f else dd b p f * 10 + (b (p + f) - 48)
          rw [ih2 (by omega), show (if p + f < n then b (p + f) else 0) = b (p + f) from if_pos (by omega)]
      rw [hddeq (e - p) (by omega)] at hd
      have hdds : dd b p (e + 1 - p) = if 1000000 < dd b p (e - p) then dd b p (e - p) else dd b p (e - p) * 10 + (b e - 48) := by
        rw [show e + 1 - p = (e - p) + 1 by omega]
        show (if 1000000 < dd b p (e - p) then dd b p (e - p) else dd b p (e - p) * 10 + (b (p + (e - p)) - 48)) = _
        rw [show p + (e - p) = e by omega]
      have cmp : lg_cmp (md_l N 12) 1000000 ≤ 0 ↔ dd b p (e - p) ≤ 1000000 := by
        rw [lg_cmp_le, Int64.le_iff_toInt_le, hl, show (1000000 : Int64).toInt = 1000000 by decide]
        omega
      refine ms_oL_i mm_f12 (ms_ite2 (fun z => ?_) (fun z => ?_))
      · have z2 := cmp.mp z
        refine ms_oL_i mm_f12 (ms_oR_i mm_f7 (ms_oI_i mm_f10 ?_))
        rw [h10, mm_r7]
        refine ⟨ms_in (by omega) (by decide), ?_⟩
        rw [ms_nc (by omega), (hT.2.2 e (by omega)).1, mm_p12]
        refine ms_oI_i mm_f10 ?_
        rw [md_i_ul, h10, mm_p10, show nI e + 1 = nI (e + 1) from ms_p1 1]
        refine ih (e + 1) _ (by omega) (mr_i (mr_l hf (by decide)) (by decide)) (TP_i (TP_l hT) (by decide)) ?_ ?_ md_i_at (by omega) hall2 ?_
        · rw [md_i_ne (by decide), md_i_ul]; exact h11
        · rw [md_i_ne (by decide), md_i_ul]; exact h9
        · rw [md_l_ui, md_l_at, hdds, if_neg (by omega)]
          rw [show dd b p (e - p) * 10 + (b e - 48) = dd b p (e - p) * 10 + b e - 48 by omega]
          exact isL_s (isL_a (isL_m hl (show isL (10 : Int64) 10 by unfold isL; decide) (by omega)) (isL_dL (n := b e) (by omega)) (by omega)) (show isL (48 : Int64) 48 by unfold isL; decide) (by omega) (by omega)
      · have z2 := mt cmp.mpr z
        refine ms_oL_i mm_f12 ?_
        rw [mm_p12]
        refine ms_oI_i mm_f10 ?_
        rw [md_i_ul, h10, mm_p10, show nI e + 1 = nI (e + 1) from ms_p1 1]
        refine ih (e + 1) _ (by omega) (mr_i (mr_l hf (by decide)) (by decide)) (TP_i (TP_l hT) (by decide)) ?_ ?_ md_i_at (by omega) hall2 ?_
        · rw [md_i_ne (by decide), md_i_ul]; exact h11
        · rw [md_i_ne (by decide), md_i_ul]; exact h9
        · rw [md_l_ui, md_l_at, hdds, if_pos (by omega)]
          exact hl
end Nx
