/-! THE LAW, but for the call law(): written with wip/whole/mdl.py from zc_lp.txt -/
/-- what is owed of the call law() -/
def HL : Prop := ∀ (X : cx_T) (M : md_T) (T : ms_S), GR X M T → ∃ (X' : cx_T) (M' : md_T) (T' : ms_S) (v : Int32), ms_Cl 1000 107 [.ref 0] (ms_x X (md_c 65 M ++ T)) (some (.int v)) (ms_x X' (md_c 65 M ++ T')) ∧ ms_Cl 1000 198 [.ref 65] (ms_x X' (md_c 65 M ++ T')) (some (.int v)) (ms_x X' (md_c 65 M' ++ T')) ∧ GR X' M' T' ∧ T'.length ≤ T.length + 3 ∧ ms_tot T' ≤ ms_tot T + 1000
def Qf (r : Option Value) (g : ms_S) : Prop := r = some (.int 1) ∧ g.length ≤ 600000 ∧ ms_tot g ≤ 7302250
section Lp
variable {X Y : cx_T} {M N : md_T} {T t : ms_S} {i j k n L : Nat} {xs : Nat → Int32}
theorem tot_c : ms_tot (cx_c X) ≤ 20000 := by
  unfold cx_c
  simp only [ms_tot, ms_sz, bk_o, List.length_cons, List.length_nil]
  omega
theorem tot_m : ms_tot (md_c 65 M) ≤ 100000 := by
  unfold md_c md_o
  simp only [ms_tot, ms_sz, List.length_cons, List.length_nil]
  omega
theorem len_8 (hL : L ≤ 4096) (hi : i ≤ 5000) : Int32.ofNat L - 8 < nI i ↔ L < i + 8 := by
  have h1 : (Int32.ofNat L).toInt = L := nI_toInt (by omega)
  have h2 : (nI i).toInt = i := nI_toInt (by omega)
  rw [Int32.lt_iff_toInt_lt, Int32.toInt_sub, h1, h2, show (8 : Int32).toInt = 8 by decide]
  have : ((L : Int) - 8).bmod (2 ^ 32) = (L : Int) - 8 := by apply Int.bmod_eq_of_le <;> omega
  rw [this]
  omega
theorem lw_loop (hHL : HL) (hL : L ≤ 4096) : ∀ (r i : Nat) (X : cx_T) (M : md_T) (T : ms_S), L < i + 8 * (r + 1) → i ≤ 4104 → GR X M T → T.length ≤ 3 * i → ms_tot T ≤ 1000 * i → VL xs L Qf 18 i (ms_x X (md_c 65 M ++ T)) := by
  intro r
  induction r with
  | zero =>
    intro i X M T hr hi h ht hs
    refine b_law_18 (ms_yes ((len_8 hL (by omega)).mpr (by omega)) ⟨(by first | exact Or.inr rfl | exact Or.inl rfl | exact Or.inl trivial | exact Or.inr trivial | trivial), rfl, ?_, ?_⟩)
    · show (ms_x X (md_c 65 M ++ T)).length ≤ _
      unfold ms_x
      rw [List.length_append, List.length_append, show (cx_c X).length = 65 from rfl, show (md_c 65 M).length = 30 from rfl]
      omega
    · show ms_tot (ms_x X (md_c 65 M ++ T)) ≤ _
      unfold ms_x
      rw [ms_tot_app2, ms_tot_app2]
      have := tot_c (X := X)
      have := tot_m (M := M)
      omega
  | succ r ih =>
    intro i X M T hr hi h ht hs
    refine b_law_18 (ms_ite2 (fun z => ?_) (fun z => ?_))
    · refine ⟨(by first | exact Or.inr rfl | exact Or.inl rfl | exact Or.inl trivial | exact Or.inr trivial | trivial), rfl, ?_, ?_⟩
      · show (ms_x X (md_c 65 M ++ T)).length ≤ _
        unfold ms_x
        rw [List.length_append, List.length_append, show (cx_c X).length = 65 from rfl, show (md_c 65 M).length = 30 from rfl]
        omega
      · show ms_tot (ms_x X (md_c 65 M ++ T)) ≤ _
        unfold ms_x
        rw [ms_tot_app2, ms_tot_app2]
        have := tot_c (X := X)
        have := tot_m (M := M)
        omega
    have hi8 : i + 8 ≤ L := by
      have := mt (len_8 hL (by omega)).mpr z
      omega
    have any : ∀ Y N T', GR Y N T' → T'.length ≤ 3 * (i + 8) → ms_tot T' ≤ 1000 * (i + 8) → VL xs L Qf 1228 i (ms_x Y (md_c 65 N ++ T')) := by
      intro Y N T' hg hl htt
      refine b_law_1228 ?_
      rw [show nI i + 8 = nI (i + 8) from ms_p1 8]
      exact ih (i + 8) Y N T' (by omega) (by omega) hg hl htt
    have same : ∀ Y N, GR Y N T → VL xs L Qf 1228 i (ms_x Y (md_c 65 N ++ T)) := fun Y N hg => any Y N T hg (by omega) (by omega)
    have law8 : VL xs L Qf 544 i (ms_x X (md_c 65 M ++ T)) := by
      obtain ⟨X', M', T', v, c1, c2, hg, hl, htt⟩ := hHL X M T h
      exact b_law_544 (ms_c1_i c1 (ms_c1_i c2 (ms_yes rfl (any X' M' T' hg (by omega) (by omega)))))
    refine ⟨ms_in (by omega) (by omega), ?_⟩
    refine ms_ite2 (fun _ => lw_164 hi8 hL h same) (fun _ => ?_)
    refine ms_ite2 (fun _ => lw_239 hi8 hL h same) (fun _ => ?_)
    refine ms_ite2 (fun _ => lw_282 hi8 hL h same) (fun _ => ?_)
    refine ms_ite2 (fun _ => lw_369 hi8 hL h same) (fun _ => ?_)
    refine ms_ite2 (fun _ => lw_392 hi8 hL h same) (fun _ => ?_)
    refine ms_ite2 (fun _ => lw_425 hi8 hL h same) (fun _ => ?_)
    refine ms_ite2 (fun _ => lw_458 hi8 hL h same) (fun _ => ?_)
    refine ms_ite2 (fun _ => lw_521 hi8 hL h same) (fun _ => ?_)
    refine ms_ite2 (fun _ => law8) (fun _ => ?_)
    refine ms_ite2 (fun _ => lw_557 hi8 hL h same) (fun _ => ?_)
    refine ms_ite2 (fun _ => lw_570 hi8 hL h same) (fun _ => ?_)
    refine ms_ite2 (fun _ => lw_603 hi8 hL h same) (fun _ => ?_)
    refine ms_ite2 (fun _ => lw_646 hi8 hL h same) (fun _ => ?_)
    refine ms_ite2 (fun _ => lw_689 hi8 hL h same) (fun _ => ?_)
    refine ms_ite2 (fun _ => lw_732 hi8 hL h same) (fun _ => ?_)
    refine ms_ite2 (fun _ => lw_765 hi8 hL h same) (fun _ => ?_)
    refine ms_ite2 (fun _ => lw_808 hi8 hL h same) (fun _ => ?_)
    refine ms_ite2 (fun _ => lw_841 hi8 hL h same) (fun _ => ?_)
    refine ms_ite2 (fun _ => lw_884 hi8 hL h same) (fun _ => ?_)
    refine ms_ite2 (fun _ => lw_927 hi8 hL h same) (fun _ => ?_)
    refine ms_ite2 (fun _ => lw_960 hi8 hL h same) (fun _ => ?_)
    refine ms_ite2 (fun _ => lw_993 hi8 hL h same) (fun _ => ?_)
    refine ms_ite2 (fun _ => lw_1027 hi8 hL h same) (fun _ => ?_)
    refine ms_ite2 (fun _ => lw_1060 hi8 hL h same) (fun _ => ?_)
    refine ms_ite2 (fun _ => lw_1103 hi8 hL h same) (fun _ => ?_)
    refine ms_ite2 (fun _ => lw_1146 hi8 hL h same) (fun _ => ?_)
    refine ms_ite2 (fun _ => lw_1169 hi8 hL h same) (fun _ => ?_)
    refine ms_ite2 (fun _ => lw_1192 hi8 hL h same) (fun _ => ?_)
    refine ms_ite2 (fun _ => lw_1215 hi8 hL h same) (fun _ => ?_)
    exact same X M h
theorem law_all (hHL : HL) (hL : L ≤ 4096) : ms_V cd_law (some (L, xs)) 4 (ms_Cl 1000) (fun r g => r = some (.int 1) ∧ g.length ≤ 600000 ∧ ms_tot g ≤ 7302250) 0 [(0, .retAddr 0)] [] [] := by
  refine b_law_0 ?_
  refine ms_c0_i (c_X_init (d := 997)) ?_
  rw [x8_end_x]
  refine ms_c0_i (c_M_init (d := 998) (h := ms_x cx_0 [])) ?_
  have hm : ms_m (ms_x cx_0 []) md_0 [] = ms_x cx_0 (md_c 65 md_0 ++ []) := by
    show (cx_c cx_0 ++ []) ++ (md_c 65 md_0 ++ []) = cx_c cx_0 ++ (md_c 65 md_0 ++ [])
    rw [List.append_nil]
  rw [hm]
  exact lw_loop hHL hL 512 0 cx_0 md_0 [] (by omega) (by omega) GR_0 (by decide) (by decide)
end Lp
