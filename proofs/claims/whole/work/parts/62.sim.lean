/-! THE RELATION of class and model, and the calls that tell it; written by wip/whole/mdl.py from sim.txt -/
def RRv (st : Int32) (rf : Nat → Int32) (tl : Int32) (tp : Nat → Int32) (fa : Int32) (st2 : Int32) (rf2 : Nat → Int32) (tl2 : Int32) (tp2 : Nat → Int32) (fa2 : Int32) : Prop := st = st2 ∧ (rf 0 = rf2 1 ∧ rf 1 = rf2 2 ∧ rf 2 = rf2 3 ∧ rf 3 = rf2 5 ∧ rf 4 = rf2 6) ∧ (tl = tl2 ∧ ∃ T, T ≤ 400 ∧ tl = nI T) ∧ (∀ k, tp k = tp2 k ∧ 0 ≤ tp k ∧ tp k ≤ 255) ∧ fa = fa2
def RR (X : cx_T) (M : md_T) : Prop := RRv (cx_i X 0 11) (cx_a X 64) (cx_i X 1 1) (cx_a X 2) (cx_i X 0 12) (md_i M 1) (md_a M 2) (md_i M 8) (md_a M 7) (md_i M 13)
def RX (X : cx_T) (M : md_T) : Prop := RB (cx_b X 6) (md_a M 3) ∧ RR X M
section Sim
variable {X : cx_T} {M : md_T}
theorem cx_i_ui {c k c2 k2 : Nat} {x : Int32} (h : ¬ (c2 = c ∧ k2 = k)) : cx_i (cx_ui X c k x) c2 k2 = cx_i X c2 k2 := by
  unfold cx_i cx_ui upd
  by_cases h1 : c2 = c
  · subst h1
    simp only [if_true]
    rw [if_neg (fun z => h ⟨rfl, z⟩)]
  · simp only [h1, if_false]
theorem cx_a_ua {c n c2 n2 : Nat} {x : Int32} : cx_a (cx_ua X c n x) c2 n2 = if c2 = c ∧ n2 = n then x else cx_a X c2 n2 := by
  unfold cx_a cx_ua upd
  by_cases h1 : c2 = c
  · subst h1
    simp only [if_true, true_and]
  · simp only [h1, if_false, false_and]
theorem md_a_fun {k n j : Nat} {x : Int32} (h : j ≠ k) : md_a (md_ua M k n x) j = md_a M j := by
  funext m
  rw [md_a_ua, if_neg (fun z => h z.1)]
/-- an answer that is taken -/
theorem RR_acc {v : Int32} (h : RR X M) (hv : 0 ≤ v) : RR (co_acc X) (md_tell M v) := by
  obtain ⟨_, b, c, e, f⟩ := h
  unfold md_tell
  rw [if_pos hv]
  refine ⟨?_, b, ?_, e, ?_⟩
  · unfold co_acc
    rw [cx_i_at, md_i_at]
  · unfold co_acc
    rw [cx_i_ui (by decide), md_i_ne (by decide)]
    exact c
  · unfold co_acc
    rw [cx_i_ui (by decide), md_i_ne (by decide)]
    exact f
theorem md_tell_a {v : Int32} {k : Nat} (hk : k ≠ 2) : md_a (md_tell M v) k = md_a M k := by
  unfold md_tell
  split
  · rfl
  · exact md_a_fun hk
/-- an answer that is refused -/
theorem RR_ref {v : Int32} (h : RR X M) (hv : v = -1 ∨ v = -2 ∨ v = -5 ∨ v = -6) : RR (co_ref X v) (md_tell M v) := by
  obtain ⟨_, ⟨b0, b1, b2, b3, b4⟩, c, e, f⟩ := h
  have hn : ¬ 0 ≤ v := by rcases hv with h | h | h | h <;> subst h <;> decide
  unfold md_tell
  rw [if_neg hn]
  refine ⟨?_, ?_, ?_, ?_, ?_⟩
  · show cx_i (cx_ui X 0 11 v) 0 11 = md_i (md_ui M 1 v) 1
    rw [cx_i_at, md_i_at]
  · unfold co_ref
    have hx : ∀ n, cx_a (cx_ui X 0 11 v) 64 n = cx_a X 64 n := fun _ => rfl
    rw [cx_a_ua, cx_a_ua, cx_a_ua, cx_a_ua, cx_a_ua, md_a_ua, md_a_ua, md_a_ua, md_a_ua, md_a_ua, hx, hx, hx, hx, hx, md_a_ui, md_a_ui, md_a_ui, md_a_ui, md_a_ui]
    rcases hv with h | h | h | h <;> subst h
    · rw [show sl_place (-1) = 0 by decide, show (-(-1 : Int32)).toNatClampNeg = 1 by decide, b0]
      exact ⟨rfl, b1, b2, b3, b4⟩
    · rw [show sl_place (-2) = 1 by decide, show (-(-2 : Int32)).toNatClampNeg = 2 by decide, b1]
      exact ⟨b0, rfl, b2, b3, b4⟩
    · rw [show sl_place (-5) = 3 by decide, show (-(-5 : Int32)).toNatClampNeg = 5 by decide, b3]
      exact ⟨b0, b1, b2, rfl, b4⟩
    · rw [show sl_place (-6) = 4 by decide, show (-(-6 : Int32)).toNatClampNeg = 6 by decide, b4]
      exact ⟨b0, b1, b2, b3, rfl⟩
  · show cx_i (cx_ui X 0 11 v) 1 1 = md_i (md_ui M 1 v) 8 ∧ ∃ T, T ≤ 400 ∧ cx_i (cx_ui X 0 11 v) 1 1 = nI T
    rw [cx_i_ui (by decide), md_i_ne (by decide)]
    exact c
  · rw [md_a_fun (by decide)]
    exact fun k => e k
  · show cx_i (cx_ui X 0 11 v) 0 12 = md_i (md_ui M 1 v) 13
    rw [cx_i_ui (by decide), md_i_ne (by decide)]
    exact f
theorem RR_ui0 (h : RR X M) {x : Int32} : RR X (md_ui M 0 x) := by
  unfold RR at h ⊢
  rw [md_i_ne (by decide), md_i_ne (by decide), md_i_ne (by decide)]
  exact h
theorem RX_ui0 (h : RX X M) {x : Int32} : RX X (md_ui M 0 x) := ⟨h.1, RR_ui0 h.2⟩
theorem RX_ref {v : Int32} (h : RX X M) (hv : v = -1 ∨ v = -2 ∨ v = -5 ∨ v = -6) : RX (co_ref X v) (md_tell M v) := by
  refine ⟨?_, RR_ref h.2 hv⟩
  rw [md_tell_a (by decide)]
  exact h.1
theorem RX_acc {v : Int32} (h : RX X M) (hv : 0 ≤ v) : RX (co_acc X) (md_tell M v) := by
  refine ⟨?_, RR_acc h.2 hv⟩
  rw [md_tell_a (by decide)]
  exact h.1
theorem RR_ua3 (h : RR X M) {n : Nat} {x : Int32} : RR X (md_ua M 3 n x) := by
  unfold RR at h ⊢
  rw [md_i_ua, md_i_ua, md_i_ua, md_a_fun (by decide), md_a_fun (by decide)]
  exact h
theorem RR_lay (h : RR X M) {p : Nat} {a b c e w : Int32} : RR X (md_lay M p a b c e w) := RR_ua3 (RR_ua3 (RR_ua3 (RR_ua3 (RR_ua3 h))))
theorem RR_ub (h : RR X M) {c : Nat} {B : bk_T} : RR (cx_ub X c B) M := h
theorem RR_forget (h : RR X M) : RR (co_forget X) M := h
theorem md_in_sl {v q : Int32} : md_in v 0 q = sl_in v q := by
  unfold md_in sl_in
  rw [← decide_not, ← decide_not, decide_eq_decide.mpr (show (0 ≤ v) ↔ ¬ v < 0 from Int32.not_lt.symm), decide_eq_decide.mpr (show (v ≤ q) ↔ ¬ q < v from Int32.not_lt.symm)]
theorem md_fields_sl {a b c e w : Int32} : md_fields a b c e w = (sl_fs a b c e && sl_in w 9) := by
  unfold md_fields sl_fs
  rw [md_in_sl, md_in_sl, md_in_sl, md_in_sl, md_in_sl]
  simp only [Bool.and_assoc]
/-- thing: alike in class and model -/
theorem S_thing {a b c e w u : Int32} (h : RX X M) : (co_thing X a b c e w u).1 = (mo_thing M (bk_tc (cx_b X 6)) a b c e w u).1 ∧ RX (co_thing X a b c e w u).2 (mo_thing M (bk_tc (cx_b X 6)) a b c e w u).2 := by
  have hw : bk_tc (cx_b X 6) ≤ 8 := h.1.1.1
  unfold co_thing mo_thing
  rw [md_fields_sl, md_in_sl, Bool.and_assoc]
  by_cases h1 : (sl_fs a b c e && (sl_in w 9 && sl_in u 1)) = true
  · rw [if_pos h1, if_pos h1]
    by_cases h2 : bk_tc (cx_b X 6) = 8
    · rw [if_neg (by omega), if_pos h2]
      exact ⟨rfl, RX_ref (RX_ui0 h) (by decide)⟩
    · rw [if_pos (by omega), if_neg h2]
      refine ⟨rfl, RX_acc ⟨?_, ?_⟩ (ms_nI_0 (by omega))⟩
      · rw [cx_b_ub]
        refine RB_addT h.1 (by omega) md_a_at ⟨?_, ?_, ?_, ?_, ?_, ?_⟩ (fun m m0 hm => ?_)
        all_goals unfold md_lay
        all_goals simp only [md_a_ua, md_a_ui, true_and]
        · rw [if_neg (by omega), if_neg (by omega), if_neg (by omega), if_neg (by omega), if_neg (by omega), if_neg (by omega), if_pos trivial]
        · rw [if_neg (by omega), if_neg (by omega), if_neg (by omega), if_neg (by omega), if_neg (by omega), if_pos trivial]
        · rw [if_neg (by omega), if_neg (by omega), if_neg (by omega), if_neg (by omega), if_pos trivial]
        · rw [if_neg (by omega), if_neg (by omega), if_neg (by omega), if_pos trivial]
        · rw [if_neg (by omega), if_neg (by omega), if_pos trivial]
        · rw [if_neg (by omega), if_pos trivial]
        · rw [if_neg (by omega), if_neg (by omega), if_neg (by omega), if_neg (by omega), if_neg (by omega), if_neg (by omega), if_neg (by omega)]
      · exact RR_ub (RR_ua3 (RR_ua3 (RR_lay (RR_ui0 h.2))))
  · rw [if_neg h1, if_neg h1]
    exact ⟨rfl, RX_ref (RX_ui0 h) (by decide)⟩
/-- paper: alike in class and model -/
theorem S_paper {a b c : Int32} (h : RX X M) : (co_paper X a b c).1 = (mo_paper M (bk_pc (cx_b X 6)) a b c).1 ∧ RX (co_paper X a b c).2 (mo_paper M (bk_pc (cx_b X 6)) a b c).2 := by
  have hw : bk_pc (cx_b X 6) ≤ 16 := h.1.1.2.1
  unfold co_paper mo_paper
  rw [md_in_sl, md_in_sl, md_in_sl]
  by_cases h1 : (sl_in a 399 && (sl_in b 7 && sl_in c 99)) = true
  · rw [if_pos h1, if_pos h1]
    by_cases h2 : bk_pc (cx_b X 6) = 16
    · rw [if_neg (by omega), if_pos h2]
      exact ⟨rfl, RX_ref (RX_ui0 h) (by decide)⟩
    · rw [if_pos (by omega), if_neg h2]
      refine ⟨rfl, RX_acc ⟨?_, ?_⟩ (ms_nI_0 (by omega))⟩
      · rw [cx_b_ub]
        refine RB_addP h.1 (by omega) md_a_at ⟨?_, ?_, ?_⟩ (fun m m0 hm => ?_)
        all_goals unfold md_addP
        all_goals simp only [md_a_ua, md_a_ui, true_and]
        · rw [if_neg (by omega), if_neg (by omega), if_neg (by omega), if_pos trivial]
        · rw [if_neg (by omega), if_neg (by omega), if_pos trivial]
        · rw [if_neg (by omega), if_pos trivial]
        · rw [if_neg (by omega), if_neg (by omega), if_neg (by omega), if_neg (by omega)]
      · exact RR_ub (RR_forget (RR_ua3 (RR_ua3 (RR_ua3 (RR_ua3 (RR_ui0 h.2))))))
  · rw [if_neg h1, if_neg h1]
    exact ⟨rfl, RX_ref (RX_ui0 h) (by decide)⟩
end Sim
