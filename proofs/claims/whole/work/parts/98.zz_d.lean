/-! EVERY TAPE READ COMES TO AN END; written by wip/whole/mdl.py from zz_d.txt -/
def pkE (n : Nat) (r : Option pk_T) : Prop := ∃ a, r = some a ∧ match a with
  | .inr _ => True
  | .inl x => x.2.1 ≤ n
section Le
variable {b : Nat → Nat} {n s lv F cnt hd : Nat} {f : dn_T}
theorem pkT_end (hs : s ≤ n) (hF : 12 * n + 12 < F) : pkE n (pkT b n F hd f s lv) := by
  unfold pkT
  by_cases h : tkc b n s = 273
  · rw [if_pos h]
    have g := tok_gt (b := b) hs (show tkc b n s ≠ 301 by omega)
    have r0 : rk 0 = 10 := rfl
    obtain ⟨a, ea, ha⟩ := pz_end (b := b) (n := n) F 0 0 fB (tkx b n s) lv g.2 (by decide) (by decide) (by omega)
    rw [ea]
    cases a with
    | inr p => exact ⟨_, rfl, trivial⟩
    | inl x => exact ⟨_, rfl, ha.1⟩
  · rw [if_neg h]
    exact ⟨_, rfl, hs⟩
theorem pk_end (hs : s ≤ n) (hF : 12 * n + 12 < F) : pkE n (pk b n F s lv cnt) := by
  unfold pk
  by_cases h : 12 ≤ cnt ∨ tkc b n s < 268 ∨ 272 < tkc b n s
  · rw [if_pos h]
    exact ⟨_, rfl, trivial⟩
  rw [if_neg h]
  have g := tok_gt (b := b) hs (show tkc b n s ≠ 301 by omega)
  by_cases h2 : tkc b n s = 272
  · rw [if_pos h2]
    exact pkT_end g.2 hF
  rw [if_neg h2]
  have r0 : rk 5 = 6 := rfl
  obtain ⟨a, ea, ha⟩ := pz_end (b := b) (n := n) F 5 0 fB (tkx b n s) lv g.2 (by decide) (by decide) (by omega)
  rw [ea]
  cases a with
  | inr p => exact ⟨_, rfl, trivial⟩
  | inl x => exact pkT_end ha.1 hF
theorem pk_12 (h : 12 ≤ cnt) : pk b n F s lv cnt = some (.inr (tkp b n s)) := by
  unfold pk
  rw [if_pos (Or.inl h)]
theorem pt_end (hF : 12 * n + 12 < F) : ∀ (G s lv : Nat) (cs : List cl_T), s ≤ n → cs.length ≤ 12 → 13 ≤ G + cs.length → ∃ res, pt b n F G s lv cs = some res := by
  intro G
  induction G with
  | zero => intro s lv cs _ h1 h2; omega
  | succ G ih =>
    intro s lv cs hs h1 h2
    show ∃ res, (match pk b n F s lv cs.length with
      | none => none
      | some (.inr p) => some (.inr p)
      | some (.inl a) => if tkc b n a.2.1 = 59 then pt b n F G (tkx b n a.2.1) a.2.2 (cs ++ [a.1]) else if tkc b n a.2.1 = 301 then some (.inl (cs ++ [a.1])) else some (.inr (tkp b n a.2.1))) = some res
    by_cases h12 : 12 ≤ cs.length
    · rw [pk_12 h12]
      exact ⟨_, rfl⟩
    obtain ⟨a, ea, ha⟩ := pk_end (b := b) (n := n) (s := s) (lv := lv) (F := F) (cnt := cs.length) hs hF
    rw [ea]
    cases a with
    | inr p => exact ⟨_, rfl⟩
    | inl x =>
      show ∃ res, (if tkc b n x.2.1 = 59 then pt b n F G (tkx b n x.2.1) x.2.2 (cs ++ [x.1]) else if tkc b n x.2.1 = 301 then some (.inl (cs ++ [x.1])) else some (.inr (tkp b n x.2.1))) = some res
      have ha : x.2.1 ≤ n := ha
      by_cases h59 : tkc b n x.2.1 = 59
      · rw [if_pos h59]
        have g := tok_gt (b := b) ha (show tkc b n x.2.1 ≠ 301 by omega)
        have l1 : (cs ++ [x.1]).length = cs.length + 1 := by rw [List.length_append]; rfl
        exact ih _ _ _ g.2 (by omega) (by omega)
      · rw [if_neg h59]
        by_cases h301 : tkc b n x.2.1 = 301
        · rw [if_pos h301]
          exact ⟨_, rfl⟩
        · rw [if_neg h301]
          exact ⟨_, rfl⟩
end Le
