/-! THE MODEL'S next: the token at hand; written by wip/whole/mdl.py from ze_nx.txt -/
/-- a number as the model reads it -/
def dd (b : Nat → Nat) (s : Nat) : Nat → Nat
  | 0 => 0
  | f + 1 => if 1000000 < dd b s f then dd b s f else dd b s f * 10 + (b (s + f) - 48)
def wthL (x : Int64) (l : List Nat) : Prop := if l.length ≤ 10 then isL x (hr l.reverse) else x = -1
def gTk (k : Nat) : Bool := decide (9 ≤ k ∧ k ≤ 14)
/-- the tape holds so many bytes -/
def TP (M : md_T) (b : Nat → Nat) (n : Nat) : Prop := n ≤ 400 ∧ md_i M 8 = nI n ∧ ∀ k, k < n → md_a M 7 k = nI (b k) ∧ b k < 256
def skp (b : Nat → Nat) (n s : Nat) : Nat := run (fun c => decide (c = 32)) b n n s
/-- the token at hand, read from s on -/
def TK (b : Nat → Nat) (n s : Nat) (N : md_T) : Prop := md_i N 9 = nI (skp b n s) ∧
  ((n ≤ skp b n s ∧ md_i N 11 = 0 ∧ md_i N 10 = nI (skp b n s)) ∨
   (skp b n s < n ∧ ltr (b (skp b n s)) = true ∧ md_i N 11 = 1 ∧ md_i N 10 = nI (run ltr b n n (skp b n s + 1)) ∧ wthL (md_l N 12) (byts b (skp b n s) (run ltr b n n (skp b n s + 1)))) ∨
   (skp b n s < n ∧ ltr (b (skp b n s)) = false ∧ dgt (b (skp b n s)) = true ∧ md_i N 11 = 2 ∧ md_i N 10 = nI (run dgt b n n (skp b n s + 1)) ∧ isL (md_l N 12) (dd b (skp b n s) (run dgt b n n (skp b n s + 1) - skp b n s))) ∨
   (skp b n s < n ∧ ltr (b (skp b n s)) = false ∧ dgt (b (skp b n s)) = false ∧ md_i N 11 = 3 ∧ md_i N 10 = nI (skp b n s + 1) ∧ isL (md_l N 12) (b (skp b n s))))
section Nx
variable {b : Nat → Nat} {n s e f k c d p : Nat} {l : List Nat} {P : Nat → Bool} {h t : ms_S} {M N : md_T} {g : ms_S}
theorem dd_nmb : ∀ f, min (dd b s f) 100001 = nmb b s f
  | 0 => rfl
  | f + 1 => by
    have ih := dd_nmb f
    show min (if 1000000 < dd b s f then dd b s f else dd b s f * 10 + (b (s + f) - 48)) 100001 = min (nmb b s f * 10 + (b (s + f) - 48)) 100001
    rw [← ih]
    split <;> omega
theorem dd_le : ∀ f, (∀ k, b k < 256) → dd b s f ≤ 20000000
  | 0, _ => Nat.zero_le _
  | f + 1, h => by
    have ih := dd_le f h
    have := h (s + f)
    show (if 1000000 < dd b s f then dd b s f else dd b s f * 10 + (b (s + f) - 48)) ≤ _
    split <;> omega
theorem hr_lt : ∀ l : List Nat, (∀ c, c ∈ l → ltr c = true) → hr l < 32 ^ l.length
  | [], _ => by decide
  | c :: r, h1 => by
    have a1 := of_decide_eq_true (h1 c List.mem_cons_self)
    have ih := hr_lt r (fun x hx => h1 x (List.mem_cons_of_mem _ hx))
    show hr r * 32 + (c - 96) < 32 ^ (r.length + 1)
    rw [Nat.pow_succ]
    omega
theorem byts_s (h : s ≤ e) : byts b s (e + 1) = byts b s e ++ [b e] := by
  unfold byts
  rw [show e + 1 - s = (e - s) + 1 by omega, List.range_succ, List.map_append]
  show _ ++ [b (s + (e - s))] = _
  rw [show s + (e - s) = e by omega]
theorem byts_len : (byts b s e).length = e - s := by
  unfold byts
  rw [List.length_map, List.length_range]
theorem n_small (hc : c < 256) : ms_Cl (d + 1) 173 [.int (nI c)] g (some (.int (ms_bi (ltr c)))) g := by
  refine m_X9_isSmall (Nat.le_refl _) (Nat.le_refl _) (b_X9_isSmall_0 (Q := ms_lf _ _) ?_)
  rw [show (97 : Int32) = nI 97 from rfl, show (122 : Int32) = nI 122 from rfl]
  refine ms_ite2 (fun z => ?_) (fun z => ?_) <;> rw [ms_nlt (by omega) (by omega)] at z
  · rw [show ltr c = false from decide_eq_false (by omega)]
    exact ⟨(by first | exact Or.inr rfl | exact Or.inl rfl | exact Or.inl trivial | exact Or.inr trivial | trivial), rfl, rfl⟩
  refine ms_ite2 (fun z2 => ?_) (fun z2 => ?_) <;> rw [ms_nlt (by omega) (by omega)] at z2
  · rw [show ltr c = false from decide_eq_false (by omega)]
    exact ⟨(by first | exact Or.inr rfl | exact Or.inl rfl | exact Or.inl trivial | exact Or.inr trivial | trivial), rfl, rfl⟩
  · rw [show ltr c = true from decide_eq_true (by omega)]
    exact ⟨(by first | exact Or.inr rfl | exact Or.inl rfl | exact Or.inl trivial | exact Or.inr trivial | trivial), rfl, rfl⟩
theorem n_digit (hc : c < 256) : ms_Cl (d + 1) 174 [.int (nI c)] g (some (.int (ms_bi (dgt c)))) g := by
  refine m_X9_isDigit (Nat.le_refl _) (Nat.le_refl _) (b_X9_isDigit_0 (Q := ms_lf _ _) ?_)
  rw [show (48 : Int32) = nI 48 from rfl, show (57 : Int32) = nI 57 from rfl]
  refine ms_ite2 (fun z => ?_) (fun z => ?_) <;> rw [ms_nlt (by omega) (by omega)] at z
  · rw [show dgt c = false from decide_eq_false (by omega)]
    exact ⟨(by first | exact Or.inr rfl | exact Or.inl rfl | exact Or.inl trivial | exact Or.inr trivial | trivial), rfl, rfl⟩
  refine ms_ite2 (fun z2 => ?_) (fun z2 => ?_) <;> rw [ms_nlt (by omega) (by omega)] at z2
  · rw [show dgt c = false from decide_eq_false (by omega)]
    exact ⟨(by first | exact Or.inr rfl | exact Or.inl rfl | exact Or.inl trivial | exact Or.inr trivial | trivial), rfl, rfl⟩
  · rw [show dgt c = true from decide_eq_true (by omega)]
    exact ⟨(by first | exact Or.inr rfl | exact Or.inl rfl | exact Or.inl trivial | exact Or.inr trivial | trivial), rfl, rfl⟩
theorem TP_fr (h : TP M b n) (f : md_fr gTk M N) : TP N b n := by
  have e8 : md_i N 8 = md_i M 8 := (f 8 (by decide)).1
  have e7 : md_a N 7 = md_a M 7 := mr_a3 f (by decide)
  unfold TP
  rw [e8, e7]
  exact h
end Nx
