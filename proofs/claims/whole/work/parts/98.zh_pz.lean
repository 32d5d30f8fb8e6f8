/-! THE GRAMMAR, as numbers and meanings; written by wip/whole/mdl.py from zh_pz.txt -/
def tkc (b : Nat → Nat) (n s : Nat) : Nat := (tok b n s).1
def tkn (b : Nat → Nat) (n s : Nat) : Nat := (tok b n s).2.1
def tkp (b : Nat → Nat) (n s : Nat) : Nat := (tok b n s).2.2.1
def tkx (b : Nat → Nat) (n s : Nat) : Nat := (tok b n s).2.2.2
/-- taken: its meaning, where the token behind it is read from, the leaves; or the place where it fails -/
abbrev pr_T : Type := (dn_T × Nat × Nat) ⊕ Nat
def pzB (r : Option pr_T) (k : dn_T → Nat → Nat → Option pr_T) : Option pr_T := match r with
  | none => none
  | some (.inr p) => some (.inr p)
  | some (.inl a) => k a.1 a.2.1 a.2.2
/-- kinds: 0 test, 1 both, 2 plain, 4 comparison, 5 sum, 6 term, 7 part; 8 .. 11 what goes on behind a test, both, sum, term -/
def pz (b : Nat → Nat) (n : Nat) : Nat → Nat → Nat → dn_T → Nat → Nat → Option pr_T
  | 0, _, _, _, _, _ => none
  | F + 1, k, dp, f0, s, lv =>
    if k = 0 then pzB (pz b n F 1 dp f0 s lv) (fun f s1 lv1 => pz b n F 8 dp f s1 lv1) else
    if k = 8 then (if tkc b n s = 274 then pzB (pz b n F 1 dp f0 (tkx b n s) lv) (fun g s1 lv1 => pz b n F 8 dp (dn_or f0 g) s1 lv1) else some (.inl (f0, s, lv))) else
    if k = 1 then pzB (pz b n F 2 dp f0 s lv) (fun f s1 lv1 => pz b n F 9 dp f s1 lv1) else
    if k = 9 then (if tkc b n s = 275 then pzB (pz b n F 2 dp f0 (tkx b n s) lv) (fun g s1 lv1 => pz b n F 9 dp (dn_and f0 g) s1 lv1) else some (.inl (f0, s, lv))) else
    if k = 2 then (if tkc b n s = 276 then pzB (pz b n F 2 dp f0 (tkx b n s) lv) (fun g s1 lv1 => some (.inl (dn_not g, s1, lv1))) else
      if tkc b n s = 40 then (if 8 ≤ dp then some (.inr (tkp b n s)) else pzB (pz b n F 0 (dp + 1) f0 (tkx b n s) lv) (fun g s1 lv1 => if tkc b n s1 = 41 then some (.inl (g, tkx b n s1, lv1)) else some (.inr (tkp b n s1)))) else
      if 263 ≤ tkc b n s ∧ tkc b n s < 268 then (if 50 ≤ lv then some (.inr (tkp b n s)) else some (.inl (fun env => some (env (tkc b n s - 256)).toInt64, tkx b n s, lv + 1))) else pz b n F 4 dp f0 s lv) else
    if k = 4 then pzB (pz b n F 5 dp f0 s lv) (fun f s1 lv1 => if tkc b n s1 = 60 ∨ tkc b n s1 = 62 ∨ tkc b n s1 = 61 then pzB (pz b n F 5 dp f0 (tkx b n s1) lv1) (fun g s2 lv2 => some (.inl (dn_op (tkc b n s1) f g, s2, lv2))) else some (.inr (tkp b n s1))) else
    if k = 5 then pzB (pz b n F 6 dp f0 s lv) (fun f s1 lv1 => pz b n F 10 dp f s1 lv1) else
    if k = 10 then (if tkc b n s = 43 ∨ tkc b n s = 45 then pzB (pz b n F 6 dp f0 (tkx b n s) lv) (fun g s1 lv1 => pz b n F 10 dp (dn_op (tkc b n s) f0 g) s1 lv1) else some (.inl (f0, s, lv))) else
    if k = 6 then pzB (pz b n F 7 dp f0 s lv) (fun f s1 lv1 => pz b n F 11 dp f s1 lv1) else
    if k = 11 then (if tkc b n s = 42 ∨ tkc b n s = 47 then pzB (pz b n F 7 dp f0 (tkx b n s) lv) (fun g s1 lv1 => pz b n F 11 dp (dn_op (tkc b n s) f0 g) s1 lv1) else some (.inl (f0, s, lv))) else
    if tkc b n s = 91 then (if 8 ≤ dp then some (.inr (tkp b n s)) else pzB (pz b n F 5 (dp + 1) f0 (tkx b n s) lv) (fun g s1 lv1 => if tkc b n s1 = 93 then some (.inl (g, tkx b n s1, lv1)) else some (.inr (tkp b n s1)))) else
    if 256 ≤ tkc b n s ∧ tkc b n s < 263 then (if 50 ≤ lv then some (.inr (tkp b n s)) else some (.inl (fun env => some (env (tkc b n s - 256)).toInt64, tkx b n s, lv + 1))) else
    if tkc b n s = 300 ∧ tkn b n s ≤ 100000 then (if 50 ≤ lv then some (.inr (tkp b n s)) else some (.inl (fun _ => some (nI (tkn b n s)).toInt64, tkx b n s, lv + 1))) else some (.inr (tkp b n s))
def rk (k : Nat) : Nat := if k = 0 then 10 else if k = 1 then 9 else if k = 2 then 8 else if k = 4 then 7 else if k = 5 then 6 else if k = 6 then 5 else if k = 7 then 4 else 11
/-- it comes to an end, and what it takes lies behind -/
def pzE (n s : Nat) (st : Bool) (r : Option pr_T) : Prop := ∃ a, r = some a ∧ match a with
  | .inr _ => True
  | .inl x => x.2.1 ≤ n ∧ s ≤ x.2.1 ∧ (st = true → s < x.2.1)
section Pz
variable {b : Nat → Nat} {n s e f k c d p s1 : Nat} {st : Bool} {r : Option pr_T}
theorem dn_nn {f : dn_T} : dn_not (dn_not f) = f := by
  funext env
  unfold dn_not
  cases f env with
  | none => rfl
  | some a =>
    show some (1 - (1 - a)) = some a
    rw [Int64.sub_eq_iff_eq_add.mpr (show (1 : Int64) = a + (1 - a) by rw [Int64.add_comm, Int64.sub_add_cancel])]
theorem tok_gt (hs : s ≤ n) (h : tkc b n s ≠ 301) : s < tkx b n s ∧ tkx b n s ≤ n := by
  have h0 : s ≤ skp b n s := run_ge n s
  refine ⟨?_, (tok_nx hs).1⟩
  unfold tkx
  unfold tkc at h
  by_cases h1 : n ≤ skp b n s
  · rw [tok_e h1] at h
    exact absurd rfl h
  · have h1 : skp b n s < n := by omega
    cases h2 : ltr (b (skp b n s)) with
    | true =>
      rw [tok_w h1 h2]
      have := run_ge (P := ltr) (b := b) (n := n) n (skp b n s + 1)
      show s < run ltr b n n (skp b n s + 1)
      omega
    | false =>
      cases h3 : dgt (b (skp b n s)) with
      | true =>
        rw [tok_d h1 h2 h3]
        have := run_ge (P := dgt) (b := b) (n := n) n (skp b n s + 1)
        show s < run dgt b n n (skp b n s + 1)
        omega
      | false =>
        rw [tok_s h1 h2 h3]
        show s < skp b n s + 1
        omega
theorem pzB_E {g : dn_T → Nat → Nat → Option pr_T} {st2 : Bool} {s0 : Nat} (h : pzE n s1 st2 r) (hg : ∀ f s2 lv2, s2 ≤ n → s1 ≤ s2 → (st2 = true → s1 < s2) → pzE n s0 st (g f s2 lv2)) : pzE n s0 st (pzB r g) := by
  obtain ⟨a, e, ha⟩ := h
  rw [e]
  cases a with
  | inr p => exact ⟨.inr p, rfl, trivial⟩
  | inl x => exact hg x.1 x.2.1 x.2.2 ha.1 ha.2.1 ha.2.2
theorem pzE_i {x : Nat} : pzE n s st (some (.inr x)) := ⟨_, rfl, trivial⟩
theorem pzE_o {f : dn_T} {s2 lv2 : Nat} (h1 : s2 ≤ n) (h2 : s ≤ s2) (h3 : st = true → s < s2) : pzE n s st (some (.inl (f, s2, lv2))) := ⟨_, rfl, h1, h2, h3⟩
theorem pzE_m {s0 : Nat} {st2 : Bool} (h : pzE n s0 st2 r) (h1 : s ≤ s0) (h2 : st = true → (s < s0 ∨ st2 = true)) : pzE n s st r := by
  obtain ⟨a, e, ha⟩ := h
  refine ⟨a, e, ?_⟩
  cases a with
  | inr p => trivial
  | inl x =>
    obtain ⟨q1, q2, q3⟩ := ha
    refine ⟨q1, Nat.le_trans h1 q2, fun z => ?_⟩
    rcases h2 z with h | h
    · omega
    · have := q3 h
      omega
theorem pz_0 {F dp s lv : Nat} {f0 : dn_T} : pz b n (F + 1) 0 dp f0 s lv = pzB (pz b n F 1 dp f0 s lv) (fun f s1 lv1 => pz b n F 8 dp f s1 lv1) := rfl
theorem pz_8 {F dp s lv : Nat} {f0 : dn_T} : pz b n (F + 1) 8 dp f0 s lv = (if tkc b n s = 274 then pzB (pz b n F 1 dp f0 (tkx b n s) lv) (fun g s1 lv1 => pz b n F 8 dp (dn_or f0 g) s1 lv1) else some (.inl (f0, s, lv))) := rfl
theorem pz_1 {F dp s lv : Nat} {f0 : dn_T} : pz b n (F + 1) 1 dp f0 s lv = pzB (pz b n F 2 dp f0 s lv) (fun f s1 lv1 => pz b n F 9 dp f s1 lv1) := rfl
theorem pz_9 {F dp s lv : Nat} {f0 : dn_T} : pz b n (F + 1) 9 dp f0 s lv = (if tkc b n s = 275 then pzB (pz b n F 2 dp f0 (tkx b n s) lv) (fun g s1 lv1 => pz b n F 9 dp (dn_and f0 g) s1 lv1) else some (.inl (f0, s, lv))) := rfl
theorem pz_2 {F dp s lv : Nat} {f0 : dn_T} : pz b n (F + 1) 2 dp f0 s lv = (if tkc b n s = 276 then pzB (pz b n F 2 dp f0 (tkx b n s) lv) (fun g s1 lv1 => some (.inl (dn_not g, s1, lv1))) else if tkc b n s = 40 then (if 8 ≤ dp then some (.inr (tkp b n s)) else pzB (pz b n F 0 (dp + 1) f0 (tkx b n s) lv) (fun g s1 lv1 => if tkc b n s1 = 41 then some (.inl (g, tkx b n s1, lv1)) else some (.inr (tkp b n s1)))) else if 263 ≤ tkc b n s ∧ tkc b n s < 268 then (if 50 ≤ lv then some (.inr (tkp b n s)) else some (.inl (fun env => some (env (tkc b n s - 256)).toInt64, tkx b n s, lv + 1))) else pz b n F 4 dp f0 s lv) := rfl
theorem pz_4 {F dp s lv : Nat} {f0 : dn_T} : pz b n (F + 1) 4 dp f0 s lv = pzB (pz b n F 5 dp f0 s lv) (fun f s1 lv1 => if tkc b n s1 = 60 ∨ tkc b n s1 = 62 ∨ tkc b n s1 = 61 then pzB (pz b n F 5 dp f0 (tkx b n s1) lv1) (fun g s2 lv2 => some (.inl (dn_op (tkc b n s1) f g, s2, lv2))) else some (.inr (tkp b n s1))) := rfl
theorem pz_5 {F dp s lv : Nat} {f0 : dn_T} : pz b n (F + 1) 5 dp f0 s lv = pzB (pz b n F 6 dp f0 s lv) (fun f s1 lv1 => pz b n F 10 dp f s1 lv1) := rfl
theorem pz_10 {F dp s lv : Nat} {f0 : dn_T} : pz b n (F + 1) 10 dp f0 s lv = (if tkc b n s = 43 ∨ tkc b n s = 45 then pzB (pz b n F 6 dp f0 (tkx b n s) lv) (fun g s1 lv1 => pz b n F 10 dp (dn_op (tkc b n s) f0 g) s1 lv1) else some (.inl (f0, s, lv))) := rfl
theorem pz_6 {F dp s lv : Nat} {f0 : dn_T} : pz b n (F + 1) 6 dp f0 s lv = pzB (pz b n F 7 dp f0 s lv) (fun f s1 lv1 => pz b n F 11 dp f s1 lv1) := rfl
theorem pz_11 {F dp s lv : Nat} {f0 : dn_T} : pz b n (F + 1) 11 dp f0 s lv = (if tkc b n s = 42 ∨ tkc b n s = 47 then pzB (pz b n F 7 dp f0 (tkx b n s) lv) (fun g s1 lv1 => pz b n F 11 dp (dn_op (tkc b n s) f0 g) s1 lv1) else some (.inl (f0, s, lv))) := rfl
theorem pz_7 {F dp s lv : Nat} {f0 : dn_T} : pz b n (F + 1) 7 dp f0 s lv = if tkc b n s = 91 then (if 8 ≤ dp then some (.inr (tkp b n s)) else pzB (pz b n F 5 (dp + 1) f0 (tkx b n s) lv) (fun g s1 lv1 => if tkc b n s1 = 93 then some (.inl (g, tkx b n s1, lv1)) else some (.inr (tkp b n s1)))) else if 256 ≤ tkc b n s ∧ tkc b n s < 263 then (if 50 ≤ lv then some (.inr (tkp b n s)) else some (.inl (fun env => some (env (tkc b n s - 256)).toInt64, tkx b n s, lv + 1))) else if tkc b n s = 300 ∧ tkn b n s ≤ 100000 then (if 50 ≤ lv then some (.inr (tkp b n s)) else some (.inl (fun _ => some (nI (tkn b n s)).toInt64, tkx b n s, lv + 1))) else some (.inr (tkp b n s)) := rfl
theorem pz_end : ∀ (F k dp : Nat) (f0 : dn_T) (s lv : Nat), s ≤ n → k ≤ 11 → k ≠ 3 → 12 * (n - s) + rk k < F → pzE n s (decide (k < 8)) (pz b n F k dp f0 s lv) := by
  intro F
  induction F with
  | zero => intro k dp f0 s lv hs hk h3 hF; omega
  | succ F ih =>
    intro k dp f0 s lv hs hk h3 hF
    have gt : ∀ s, s ≤ n → tkc b n s ≠ 301 → s < tkx b n s ∧ tkx b n s ≤ n := fun s hs h => tok_gt hs h
    have hkk : k = 0 ∨ k = 8 ∨ k = 1 ∨ k = 9 ∨ k = 2 ∨ k = 4 ∨ k = 5 ∨ k = 10 ∨ k = 6 ∨ k = 11 ∨ k = 7 := by omega
    rcases hkk with rfl | rfl | rfl | rfl | rfl | rfl | rfl | rfl | rfl | rfl | rfl
    · rw [pz_0]
      refine pzB_E (ih 1 dp f0 s lv hs (by decide) (by decide) (by have : rk 0 = 10 := rfl; have : rk 1 = 9 := rfl; omega)) (fun f s2 lv2 a1 a2 a3 => pzE_m (ih 8 dp f s2 lv2 a1 (by decide) (by decide) (by have : rk 0 = 10 := rfl; have : rk 8 = 11 := rfl; have := a3 rfl; omega)) a2 (fun _ => Or.inl (a3 rfl)))
    · rw [pz_8]
      split
      · have g := gt s hs (by omega)
        refine pzB_E (ih 1 dp f0 (tkx b n s) lv g.2 (by decide) (by decide) (by have : rk 8 = 11 := rfl; have : rk 1 = 9 := rfl; omega)) (fun f s2 lv2 a1 a2 a3 => pzE_m (ih 8 dp _ s2 lv2 a1 (by decide) (by decide) (by have : rk 8 = 11 := rfl; omega)) (by omega) (fun z => by cases z))
      · exact pzE_o hs (Nat.le_refl _) (fun z => by cases z)
    · rw [pz_1]
      refine pzB_E (ih 2 dp f0 s lv hs (by decide) (by decide) (by have : rk 1 = 9 := rfl; have : rk 2 = 8 := rfl; omega)) (fun f s2 lv2 a1 a2 a3 => pzE_m (ih 9 dp f s2 lv2 a1 (by decide) (by decide) (by have : rk 1 = 9 := rfl; have : rk 9 = 11 := rfl; have := a3 rfl; omega)) a2 (fun _ => Or.inl (a3 rfl)))
    · rw [pz_9]
      split
      · have g := gt s hs (by omega)
        refine pzB_E (ih 2 dp f0 (tkx b n s) lv g.2 (by decide) (by decide) (by have : rk 9 = 11 := rfl; have : rk 2 = 8 := rfl; omega)) (fun f s2 lv2 a1 a2 a3 => pzE_m (ih 9 dp _ s2 lv2 a1 (by decide) (by decide) (by have : rk 9 = 11 := rfl; omega)) (by omega) (fun z => by cases z))
      · exact pzE_o hs (Nat.le_refl _) (fun z => by cases z)
    · rw [pz_2]
      have r2 : rk 2 = 8 := rfl
      split
      · have g := gt s hs (by omega)
        exact pzB_E (ih 2 dp f0 (tkx b n s) lv g.2 (by decide) (by decide) (by omega)) (fun f s2 lv2 a1 a2 a3 => pzE_o a1 (by omega) (fun _ => by omega))
      split
      · have g := gt s hs (by omega)
        split
        · exact pzE_i
        · refine pzB_E (ih 0 (dp + 1) f0 (tkx b n s) lv g.2 (by decide) (by decide) (by have : rk 0 = 10 := rfl; omega)) (fun f s2 lv2 a1 a2 a3 => ?_)
          split
          · have g2 := gt s2 a1 (by omega)
            exact pzE_o g2.2 (by omega) (fun _ => by omega)
          · exact pzE_i
      split
      · have g := gt s hs (by omega)
        split
        · exact pzE_i
        · exact pzE_o g.2 (by omega) (fun _ => by omega)
      · exact ih 4 dp f0 s lv hs (by decide) (by decide) (by have : rk 4 = 7 := rfl; omega)
    · rw [pz_4]
      have r4 : rk 4 = 7 := rfl
      have r5 : rk 5 = 6 := rfl
      refine pzB_E (ih 5 dp f0 s lv hs (by decide) (by decide) (by omega)) (fun f s2 lv2 a1 a2 a3 => ?_)
      have := a3 rfl
      split
      · have g := gt s2 a1 (by omega)
        exact pzB_E (ih 5 dp f0 (tkx b n s2) lv2 g.2 (by decide) (by decide) (by omega)) (fun f s3 lv3 c1 c2 c3 => pzE_o c1 (by omega) (fun _ => by omega))
      · exact pzE_i
    · rw [pz_5]
      refine pzB_E (ih 6 dp f0 s lv hs (by decide) (by decide) (by have : rk 5 = 6 := rfl; have : rk 6 = 5 := rfl; omega)) (fun f s2 lv2 a1 a2 a3 => pzE_m (ih 10 dp f s2 lv2 a1 (by decide) (by decide) (by have : rk 5 = 6 := rfl; have : rk 10 = 11 := rfl; have := a3 rfl; omega)) a2 (fun _ => Or.inl (a3 rfl)))
    · rw [pz_10]
      split
      · have g := gt s hs (by omega)
        refine pzB_E (ih 6 dp f0 (tkx b n s) lv g.2 (by decide) (by decide) (by have : rk 10 = 11 := rfl; have : rk 6 = 5 := rfl; omega)) (fun f s2 lv2 a1 a2 a3 => pzE_m (ih 10 dp _ s2 lv2 a1 (by decide) (by decide) (by have : rk 10 = 11 := rfl; omega)) (by omega) (fun z => by cases z))
      · exact pzE_o hs (Nat.le_refl _) (fun z => by cases z)
    · rw [pz_6]
      refine pzB_E (ih 7 dp f0 s lv hs (by decide) (by decide) (by have : rk 6 = 5 := rfl; have : rk 7 = 4 := rfl; omega)) (fun f s2 lv2 a1 a2 a3 => pzE_m (ih 11 dp f s2 lv2 a1 (by decide) (by decide) (by have : rk 6 = 5 := rfl; have : rk 11 = 11 := rfl; have := a3 rfl; omega)) a2 (fun _ => Or.inl (a3 rfl)))
    · rw [pz_11]
      split
      · have g := gt s hs (by omega)
        refine pzB_E (ih 7 dp f0 (tkx b n s) lv g.2 (by decide) (by decide) (by have : rk 11 = 11 := rfl; have : rk 7 = 4 := rfl; omega)) (fun f s2 lv2 a1 a2 a3 => pzE_m (ih 11 dp _ s2 lv2 a1 (by decide) (by decide) (by have : rk 11 = 11 := rfl; omega)) (by omega) (fun z => by cases z))
      · exact pzE_o hs (Nat.le_refl _) (fun z => by cases z)
    · rw [pz_7]
      have r7 : rk 7 = 4 := rfl
      split
      · have g := gt s hs (by omega)
        split
        · exact pzE_i
        · refine pzB_E (ih 5 (dp + 1) f0 (tkx b n s) lv g.2 (by decide) (by decide) (by have : rk 5 = 6 := rfl; omega)) (fun f s2 lv2 a1 a2 a3 => ?_)
          split
          · have g2 := gt s2 a1 (by omega)
            exact pzE_o g2.2 (by omega) (fun _ => by omega)
          · exact pzE_i
      split
      · have g := gt s hs (by omega)
        split
        · exact pzE_i
        · exact pzE_o g.2 (by omega) (fun _ => by omega)
      split
      · have g := gt s hs (by omega)
        split
        · exact pzE_i
        · exact pzE_o g.2 (by omega) (fun _ => by omega)
      · exact pzE_i
end Pz
