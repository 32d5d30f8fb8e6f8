/-! THE TAPE'S TOKENS, as numbers; written by wip/whole/mdl.py from zd_lex.txt -/
/-- the words, in the order of their numbers from 256 on -/
def WL : List (List Nat) := [[102, 105, 101, 108, 100], [102, 114, 111, 109], [116, 111], [121, 101, 97, 114], [121, 101, 97, 114, 115], [116, 104, 105, 110, 103], [99, 108, 97, 105, 109], [110, 101, 97, 114], [115, 119, 97, 112], [100, 114, 111, 112], [107, 105, 110], [103, 104, 111, 115, 116], [115, 108, 105, 112], [108, 111, 111, 107], [111, 112, 101, 110], [98, 105, 114, 116, 104], [98, 97, 114], [105, 102], [111, 114], [97, 110, 100], [110, 111, 116]]
def wdn (l : List Nat) : List (List Nat) → Nat → Nat
  | [], _ => 302
  | w :: r, k => if w = l then k else wdn l r (k + 1)
def wd (l : List Nat) : Nat := wdn l WL 256
def ltr (c : Nat) : Bool := decide (97 ≤ c ∧ c ≤ 122)
def dgt (c : Nat) : Bool := decide (48 ≤ c ∧ c ≤ 57)
/-- where a run of such bytes ends: so many steps at most -/
def run (P : Nat → Bool) (b : Nat → Nat) (n : Nat) : Nat → Nat → Nat
  | 0, s => s
  | f + 1, s => if s < n ∧ P (b s) = true then run P b n f (s + 1) else s
def byts (b : Nat → Nat) (s e : Nat) : List Nat := (List.range (e - s)).map (fun i => b (s + i))
/-- a word as a number, last letter first -/
def hr : List Nat → Nat
  | [] => 0
  | c :: r => hr r * 32 + (c - 96)
/-- a number, not above one more than the most -/
def nmb (b : Nat → Nat) (s : Nat) : Nat → Nat
  | 0 => 0
  | f + 1 => min (nmb b s f * 10 + (b (s + f) - 48)) 100001
/-- a token: its sign, its number, where it begins, where the next one may begin -/
def tok (b : Nat → Nat) (n s : Nat) : Nat × Nat × Nat × Nat :=
  let p := run (fun c => decide (c = 32)) b n n s
  if n ≤ p then (301, 0, p, p) else
  if ltr (b p) then (wd (byts b p (run ltr b n n (p + 1))), 0, p, run ltr b n n (p + 1)) else
  if dgt (b p) then (300, nmb b p (run dgt b n n (p + 1) - p), p, run dgt b n n (p + 1)) else (b p, 0, p, p + 1)
section Lex
variable {b : Nat → Nat} {n s e f k c : Nat} {l l2 : List Nat} {P : Nat → Bool}
theorem hr_inj : ∀ l l2 : List Nat, (∀ c, c ∈ l → ltr c = true) → (∀ c, c ∈ l2 → ltr c = true) → hr l = hr l2 → l = l2
  | [], [], _, _, _ => rfl
  | [], c :: r, _, h2, h => by
    have := of_decide_eq_true (h2 c List.mem_cons_self)
    have h : 0 = hr r * 32 + (c - 96) := h
    omega
  | c :: r, [], h1, _, h => by
    have := of_decide_eq_true (h1 c List.mem_cons_self)
    have h : hr r * 32 + (c - 96) = 0 := h
    omega
  | c :: r, c2 :: r2, h1, h2, h => by
    have a1 := of_decide_eq_true (h1 c List.mem_cons_self)
    have a2 := of_decide_eq_true (h2 c2 List.mem_cons_self)
    have h : hr r * 32 + (c - 96) = hr r2 * 32 + (c2 - 96) := h
    have e1 : hr r = hr r2 := by omega
    have e2 : c = c2 := by omega
    rw [e2, hr_inj r r2 (fun x hx => h1 x (List.mem_cons_of_mem _ hx)) (fun x hx => h2 x (List.mem_cons_of_mem _ hx)) e1]
/-- a letters' word is that word just when its number is -/
theorem wd_hr {w : List Nat} (hl : ∀ c, c ∈ l → ltr c = true) (hw : (w.all ltr) = true) : l = w ↔ hr l.reverse = hr w.reverse := by
  constructor
  · intro h
    rw [h]
  · intro h
    have := hr_inj l.reverse w.reverse (fun c hc => hl c (List.mem_reverse.mp hc)) (fun c hc => List.all_eq_true.mp hw c (List.mem_reverse.mp hc)) h
    exact List.reverse_inj.mp this
theorem wdn_at : ∀ (W : List (List Nat)) (k j : Nat), k + W.length ≤ 302 → k ≤ j → j < k + W.length → W.Nodup → (wdn l W k = j ↔ W[j - k]? = some l)
  | [], k, j, _, h1, h2, _ => by
    have h2 : j < k + 0 := h2
    omega
  | w :: r, k, j, hk, h1, h2, hn => by
    obtain ⟨n1, n2⟩ := List.nodup_cons.mp hn
    have h2 : j < k + (r.length + 1) := h2
    have hk : k + (r.length + 1) ≤ 302 := hk
    unfold wdn
    by_cases hw : w = l
    · rw [if_pos hw]
      constructor
      · intro h
        rw [← h, Nat.sub_self]
        exact congrArg some hw
      · intro h
        by_cases hj : j = k
        · exact hj.symm
        · obtain ⟨q, hq⟩ : ∃ q, j - k = q + 1 := ⟨j - k - 1, by omega⟩
          rw [hq, List.getElem?_cons_succ] at h
          have := List.mem_of_getElem? h
          rw [← hw] at this
          exact absurd this n1
    · rw [if_neg hw]
      by_cases hj : j = k
      · rw [hj, Nat.sub_self]
        constructor
        · intro h
          exfalso
          have : ∀ (W : List (List Nat)) (k : Nat), k + W.length ≤ 302 → k ≤ wdn l W k := by
            intro W
            induction W with
            | nil => intro k hk; exact hk
            | cons a W ih =>
              intro k hk
              have hk : k + (W.length + 1) ≤ 302 := hk
              unfold wdn
              split
              · exact Nat.le_refl _
              · have := ih (k + 1) (by omega)
                omega
          have := this r (k + 1) (by omega)
          omega
        · intro h
          exact absurd (Option.some.inj h) hw
      · rw [wdn_at r (k + 1) j (by omega) (by omega) (by omega) n2]
        obtain ⟨q, hq⟩ : ∃ q, j - k = q + 1 := ⟨j - k - 1, by omega⟩
        rw [hq, List.getElem?_cons_succ, show j - (k + 1) = q by omega]
theorem WL_nd : WL.Nodup := by decide
/-- the word of a number -/
theorem wd_at (hk : k < 21) : wd l = 256 + k ↔ WL[k]? = some l := by
  have := wdn_at (l := l) WL 256 (256 + k) (by decide) (by omega) (by show 256 + k < 256 + 21; omega) WL_nd
  rw [show 256 + k - 256 = k by omega] at this
  exact this
theorem run_ge : ∀ f s, s ≤ run P b n f s
  | 0, s => Nat.le_refl _
  | f + 1, s => by
    unfold run
    split
    · exact Nat.le_trans (Nat.le_succ s) (run_ge f (s + 1))
    · exact Nat.le_refl _
theorem run_le : ∀ f s, s ≤ n → run P b n f s ≤ n
  | 0, s, h => h
  | f + 1, s, h => by
    unfold run
    split
    · rename_i hc
      exact run_le f (s + 1) hc.1
    · exact h
theorem run_all : ∀ f s i, s ≤ i → i < run P b n f s → P (b i) = true
  | 0, s, i, h1, h2 => by
    have h2 : i < s := h2
    omega
  | f + 1, s, i, h1, h2 => by
    unfold run at h2
    split at h2
    · rename_i hc
      by_cases hi : i = s
      · rw [hi]
        exact hc.2
      · exact run_all f (s + 1) i (by omega) h2
    · omega
theorem run_end : ∀ f s, n ≤ s + f → ¬ (run P b n f s < n ∧ P (b (run P b n f s)) = true)
  | 0, s, h, hc => by
    have : s < n := hc.1
    omega
  | f + 1, s, h, hc => by
    unfold run at hc
    split at hc
    · exact run_end f (s + 1) (by omega) hc
    · rename_i hn
      exact hn hc
end Lex
