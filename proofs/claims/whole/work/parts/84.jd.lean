/-! THE JDK'S OWN: bitCount, fill of a range; written by wip/whole/mdl.py from jd.txt -/
def ms_fillr (f : Nat → Int32) (a b : Nat) (v : Int32) : Nat → Int32 := fun j => if a ≤ j ∧ j < b then v else f j
def bcn (x : Nat) : Nat :=
  let a := x - (x / 2 &&& 1431655765)
  let b := (a &&& 858993459) + (a / 4 &&& 858993459)
  let c := (b + b / 16) &&& 252645135
  let e := c + c / 256
  let f := e + e / 65536
  f &&& 63
section Jd
variable {d : Nat}
theorem b_J7_rangeCheck_0 {T : ms_TT} {Q : Option Value → ms_S → Prop} {g : ms_S} {v0 v1 v2 : Int32} (h : if v1 ≤ v2 then (if 0 ≤ v1 then (if v2 ≤ v0 then Q none g else False) else False) else False) : ms_V cd_J7_rangeCheck_23922 none 0 T Q 0 [(0, .int v0), (1, .int v1), (2, .int v2)] [] g := ms_go (stops := []) (n := 20) h
theorem c_rangeCheck {n a b : Nat} {g : ms_S} (h1 : a ≤ b) (h2 : b ≤ n) (hn : n < 2 ^ 31) : ms_Cl (d + 1) 273 [.int (nI n), .int (nI a), .int (nI b)] g none g := by
  refine m_J7_rangeCheck_23922 (Nat.le_refl _) (Nat.le_refl _) (b_J7_rangeCheck_0 (ms_yes ?_ (ms_yes ?_ (ms_yes ?_ ⟨rfl, rfl⟩))))
  · exact (ms_nle (by omega) (by omega)).mpr h1
  · exact ms_nI_0 (by omega)
  · exact (ms_nle (by omega) (by omega)).mpr h2
theorem c_fillr {g : ms_S} {c n a b : Nat} {f : Nat → Int32} {v : Int32} (h : g[c]? = some (.inl (0, n, .inl f))) (h1 : a ≤ b) (h2 : b ≤ n) (hn : n < 2 ^ 31) : ms_Cl (d + 2) 275 [.ref c, .int (nI a), .int (nI b), .int v] g none (g.set c (.inl (0, n, .inl (ms_fillr f a b v)))) := by
  refine m_J7_fill_fda19 (by simp) (ms_tot_le h rfl) (b_J7_fill_fda19_0 (ms_aL_j h rfl (ms_c0_i (c_rangeCheck h1 h2 hn) ?_)))
  have loop : ∀ (m k : Nat), k + m = b → a ≤ k → ∀ g1 : ms_S, g1 = g.set c (.inl (0, n, .inl (ms_fillr f a k v))) → ms_V cd_J7_fill_fda19 none 0 (ms_Cl (d + 1)) (fun r1 g2 => r1 = none ∧ g2 = g.set c (.inl (0, n, .inl (ms_fillr f a b v)))) 10 [(0, .ref c), (2, .int (nI b)), (3, .int v), (4, .int (nI k))] [] g1 := by
    intro m
    induction m with
    | zero =>
      intro k hk hak g1 hg
      obtain rfl : k = b := by omega
      exact b_J7_fill_fda19_10 (ms_yes (Int32.le_refl _) ⟨rfl, hg⟩)
    | succ m ih =>
      intro k hk hak g1 hg
      refine b_J7_fill_fda19_10 (ms_no ?_ ?_)
      · rw [ms_nle (by omega) (by omega)]
        omega
      refine ms_wI_i (n := n) (f := ms_fillr f a k v) (by rw [hg]; exact ms_set_at h) (ms_in (by omega) hn) ?_
      rw [show nI k + 1 = nI (k + 1) from ms_p1 1, ms_nc (by omega), hg, List.set_set]
      refine ih (k + 1) (by omega) (by omega) _ ?_
      have e : upd (ms_fillr f a k v) k v = ms_fillr f a (k + 1) v := by
        funext j
        unfold upd ms_fillr
        by_cases hj : j = k
        · rw [if_pos hj, if_pos (by omega)]
        · rw [if_neg hj]
          by_cases hj2 : a ≤ j ∧ j < k
          · rw [if_pos hj2, if_pos (by omega)]
          · rw [if_neg hj2, if_neg (by omega)]
      rw [e]
  refine loop (b - a) a (by omega) (Nat.le_refl _) g ?_
  have e : ms_fillr f a a v = f := by
    funext j
    unfold ms_fillr
    rw [if_neg (by omega)]
  rw [e]
  apply List.ext_getElem?
  intro i
  by_cases hi : c = i
  · subst hi; rw [ms_set_at h, h]
  · rw [ms_set_ne hi]
theorem us_r {x k : Nat} (hx : x < 2 ^ 31) (hk : k < 32) : (Int32.toUInt32 (nI x) >>> (Int32.toUInt32 (nI k) &&& Int32.toUInt32 31)).toInt32 = nI (x / 2 ^ k) := by
  have hle : x / 2 ^ k ≤ x := Nat.div_le_self _ _
  have e0 : ∀ k : Nat, k < 32 → (Int32.toUInt32 (nI k) &&& Int32.toUInt32 31).toNat = k := by decide +kernel
  apply bx_ext
  rw [nI_bvn (by omega)]
  show (Int32.toUInt32 (nI x) >>> (Int32.toUInt32 (nI k) &&& Int32.toUInt32 31)).toNat = _
  rw [UInt32.toNat_shiftRight, e0 k hk, Nat.mod_eq_of_lt hk, show (Int32.toUInt32 (nI x)).toNat = x from nI_bvn (by omega), Nat.shiftRight_eq_div_pow]
theorem sb_nI {a b : Nat} (h : b ≤ a) : nI a - nI b = nI (a - b) := by
  have e := ms_p1 (p := a - b) b
  rw [Nat.sub_add_cancel h] at e
  rw [← e, Int32.add_sub_cancel]
theorem bcn_ok : ∀ a, a < 256 → ∀ b, b < 256 → bcn (a * 256 + b) = bcn ((a * 256 + b) / 2) + (a * 256 + b) % 2 := by decide +kernel
theorem bcn_s {x : Nat} (hx : x < 65536) : bcn x = bcn (x / 2) + x % 2 := by
  have k := bcn_ok (x / 256) (by omega) (x % 256) (by omega)
  rw [show x / 256 * 256 + x % 256 = x by omega] at k
  exact k
theorem ones_s (x : Nat) : ∀ m : Nat, ones x (m + 1) = x % 2 + ones (x / 2) m
  | 0 => by
    show 0 + (if x.testBit 0 then 1 else 0) = x % 2 + 0
    rw [Nat.testBit_zero]
    by_cases h : x % 2 = 1
    · rw [decide_eq_true h, h]; rfl
    · rw [decide_eq_false h, show x % 2 = 0 by omega]; rfl
  | m + 1 => by
    show ones x (m + 1) + (if x.testBit (m + 1) then 1 else 0) = x % 2 + (ones (x / 2) m + (if (x / 2).testBit m then 1 else 0))
    rw [ones_s x m, tb_s, Nat.add_assoc]
theorem ones_bcn : ∀ (m x : Nat), m ≤ 16 → x < 2 ^ m → ones x m = bcn x
  | 0, x, _, h => by
    rw [show x = 0 by omega]
    rfl
  | m + 1, x, hm, h => by
    have h16 : 2 ^ (m + 1) ≤ 2 ^ 16 := Nat.pow_le_pow_right (by decide) hm
    rw [ones_s, ones_bcn m (x / 2) (by omega) (by rw [Nat.pow_succ] at h; omega), bcn_s (x := x) (by omega)]
    omega
theorem and_le {a b : Nat} : a &&& b ≤ b := Nat.and_le_right
theorem c_bitCount {x m : Nat} {g : ms_S} (hm : m ≤ 16) (hx : x < 2 ^ m) : ms_Cl (d + 1) 257 [.int (nI x)] g (some (.int (nI (ones x m)))) g := by
  have h16 : 2 ^ m ≤ 2 ^ 16 := Nat.pow_le_pow_right (by decide) hm
  rw [ones_bcn m x hm hx]
  refine m_J6_bitCount_0f7a4 (Nat.le_refl _) (Nat.le_refl _) (b_J6_bitCount_0f7a4_0 ⟨?_, rfl⟩)
  have l1 : x / 2 &&& 1431655765 ≤ x / 2 := Nat.and_le_left
  have e1 : nI x - ((Int32.toUInt32 (nI x) >>> (Int32.toUInt32 1 &&& Int32.toUInt32 31)).toInt32 &&& 1431655765) = nI (x - (x / 2 &&& 1431655765)) := by
    rw [show (1 : Int32) = nI 1 from rfl, us_r (by omega) (by decide), show x / 2 ^ 1 = x / 2 from rfl, show (1431655765 : Int32) = nI 1431655765 from rfl, an_nI (by omega) (by decide), sb_nI (by omega)]
  rw [e1]
  have d1 : x - (x / 2 &&& 1431655765) ≤ x := Nat.sub_le _ _
  unfold bcn
  simp only
  generalize x - (x / 2 &&& 1431655765) = a at *
  have l2 : a &&& 858993459 ≤ a := Nat.and_le_left
  have l3 : a / 4 &&& 858993459 ≤ a / 4 := Nat.and_le_left
  have e2 : (nI a &&& 858993459) + ((Int32.toUInt32 (nI a) >>> (Int32.toUInt32 2 &&& Int32.toUInt32 31)).toInt32 &&& 858993459) = nI ((a &&& 858993459) + (a / 4 &&& 858993459)) := by
    rw [show (2 : Int32) = nI 2 from rfl, us_r (by omega) (by decide), show a / 2 ^ 2 = a / 4 from rfl, show (858993459 : Int32) = nI 858993459 from rfl, an_nI (by omega) (by decide), an_nI (by omega) (by decide), ms_p1]
  rw [e2]
  generalize hb : (a &&& 858993459) + (a / 4 &&& 858993459) = b at *
  have l4 : b + b / 16 &&& 252645135 ≤ b + b / 16 := Nat.and_le_left
  have e3 : (nI b + (Int32.toUInt32 (nI b) >>> (Int32.toUInt32 4 &&& Int32.toUInt32 31)).toInt32) &&& 252645135 = nI (b + b / 16 &&& 252645135) := by
    rw [show (4 : Int32) = nI 4 from rfl, us_r (by omega) (by decide), show b / 2 ^ 4 = b / 16 from rfl, show (252645135 : Int32) = nI 252645135 from rfl, ms_p1, an_nI (by omega) (by decide)]
  rw [e3]
  generalize hc : b + b / 16 &&& 252645135 = c at *
  have e4 : nI c + (Int32.toUInt32 (nI c) >>> (Int32.toUInt32 8 &&& Int32.toUInt32 31)).toInt32 = nI (c + c / 256) := by
    rw [show (8 : Int32) = nI 8 from rfl, us_r (by omega) (by decide), show c / 2 ^ 8 = c / 256 from rfl, ms_p1]
  rw [e4]
  generalize he : c + c / 256 = e at *
  have e5 : nI e + (Int32.toUInt32 (nI e) >>> (Int32.toUInt32 16 &&& Int32.toUInt32 31)).toInt32 = nI (e + e / 65536) := by
    rw [show (16 : Int32) = nI 16 from rfl, us_r (by omega) (by decide), show e / 2 ^ 16 = e / 65536 from rfl, ms_p1]
  rw [e5, show (63 : Int32) = nI 63 from rfl, an_nI (by omega) (by decide)]
end Jd
