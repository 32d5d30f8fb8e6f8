/-! THE CLASS'S CHOOSER: rows of choices; written by wip/whole/mdl.py from chr.txt -/
theorem ms_wi_Q {X : Option (Nat × (Nat → Int32))} {rt : Nat} {T : ms_TT} {Q Q' : Option Value → ms_S → Prop} {K : ms_K} (hq : ∀ r g, Q r g → Q' r g) {e : ms_I} {ls : ms_L} {st : List Value} {g : ms_S} (h : ms_wi X rt T Q K e ls st g) : ms_wi X rt T Q' K e ls st g := by
  obtain ⟨pc, i, len, tg, c, cl⟩ := e
  cases i with
  | ireturn =>
    dsimp only [ms_wi] at h ⊢
    split at h
    · split at h
      · exact hq _ _ h
      · exact ⟨h.1, hq _ _ h.2⟩
      · exact h.elim
    · exact h.elim
  | lreturn =>
    dsimp only [ms_wi] at h ⊢
    split at h
    · split at h
      · exact hq _ _ h
      · exact h.elim
    · exact h.elim
  | areturn =>
    dsimp only [ms_wi] at h ⊢
    split at h
    · split at h
      · exact hq _ _ h
      · exact h.elim
    · split at h
      · exact hq _ _ h
      · exact h.elim
    · exact h.elim
  | return_ =>
    dsimp only [ms_wi] at h ⊢
    split at h
    · split at h
      · exact hq _ _ h
      · exact h.elim
    · exact h.elim
  | _ => exact h
theorem ms_V_mono {cd : List (List ms_I)} {X : Option (Nat × (Nat → Int32))} {rt : Nat} {T : ms_TT} {Q Q' : Option Value → ms_S → Prop} {pc : Nat} {ls : ms_L} {st : List Value} {g : ms_S} (h : ms_V cd X rt T Q pc ls st g) (hq : ∀ r g, Q r g → Q' r g) : ms_V cd X rt T Q' pc ls st g :=
  h (ms_V cd X rt T Q') (fun _ _ _ _ _ hf hw => ms_V_step hf (ms_wi_Q hq hw)) (fun _ _ _ _ _ hs hv => ms_V_sub hs hv)
def ntz74 (i n : Int32) : Int32 := n + (i.toUInt32 >>> (Int32.toUInt32 1 &&& Int32.toUInt32 31)).toInt32
def ntz62 (i n : Int32) : Int32 := if i ≤ 4 then ntz74 i n else ntz74 (i.toUInt32 >>> (Int32.toUInt32 2 &&& Int32.toUInt32 31)).toInt32 (n + 2)
def ntz49 (i n : Int32) : Int32 := if i ≤ 16 then ntz62 i n else ntz62 (i.toUInt32 >>> (Int32.toUInt32 4 &&& Int32.toUInt32 31)).toInt32 (n + 4)
def ntz34 (i n : Int32) : Int32 := if i ≤ 256 then ntz49 i n else ntz49 (i.toUInt32 >>> (Int32.toUInt32 8 &&& Int32.toUInt32 31)).toInt32 (n + 8)
def ntz17 (i : Int32) : Int32 := if i ≤ 65536 then ntz34 i 1 else ntz34 (i.toUInt32 >>> (Int32.toUInt32 16 &&& Int32.toUInt32 31)).toInt32 (1 + 16)
def ntz0 (v : Int32) : Int32 := if 0 < ((v ^^^ (-1)) &&& (v - 1)) then ntz17 ((v ^^^ (-1)) &&& (v - 1)) else ((v ^^^ (-1)) &&& (v - 1)) &&& 32
section Ntz
variable {T : ms_TT} {Q : Option Value → ms_S → Prop} {g : ms_S} {v0 v1 : Int32}
theorem b_ntz_0 (h : if 0 < ((v0 ^^^ (-1)) &&& (v0 - 1)) then ms_V cd_J6_numberOfTrailingZeros_0f7a4 none 1 T Q 17 [(0, .int ((v0 ^^^ (-1)) &&& (v0 - 1)))] [] g else Q (some (.int (((v0 ^^^ (-1)) &&& (v0 - 1)) &&& 32))) g) : ms_V cd_J6_numberOfTrailingZeros_0f7a4 none 1 T Q 0 [(0, .int v0)] [] g := ms_go (stops := [(17, [0])]) (n := 20) h
theorem b_ntz_17 (h : if v0 ≤ 65536 then ms_V cd_J6_numberOfTrailingZeros_0f7a4 none 1 T Q 34 [(0, .int v0), (1, .int 1)] [] g else ms_V cd_J6_numberOfTrailingZeros_0f7a4 none 1 T Q 34 [(0, .int ((v0.toUInt32 >>> (Int32.toUInt32 16 &&& Int32.toUInt32 31)).toInt32)), (1, .int (1 + 16))] [] g) : ms_V cd_J6_numberOfTrailingZeros_0f7a4 none 1 T Q 17 [(0, .int v0)] [] g := ms_go (stops := [(34, [0, 1])]) (n := 20) h
theorem b_ntz_34 (h : if v0 ≤ 256 then ms_V cd_J6_numberOfTrailingZeros_0f7a4 none 1 T Q 49 [(0, .int v0), (1, .int v1)] [] g else ms_V cd_J6_numberOfTrailingZeros_0f7a4 none 1 T Q 49 [(0, .int ((v0.toUInt32 >>> (Int32.toUInt32 8 &&& Int32.toUInt32 31)).toInt32)), (1, .int (v1 + 8))] [] g) : ms_V cd_J6_numberOfTrailingZeros_0f7a4 none 1 T Q 34 [(0, .int v0), (1, .int v1)] [] g := ms_go (stops := [(49, [0, 1])]) (n := 20) h
theorem b_ntz_49 (h : if v0 ≤ 16 then ms_V cd_J6_numberOfTrailingZeros_0f7a4 none 1 T Q 62 [(0, .int v0), (1, .int v1)] [] g else ms_V cd_J6_numberOfTrailingZeros_0f7a4 none 1 T Q 62 [(0, .int ((v0.toUInt32 >>> (Int32.toUInt32 4 &&& Int32.toUInt32 31)).toInt32)), (1, .int (v1 + 4))] [] g) : ms_V cd_J6_numberOfTrailingZeros_0f7a4 none 1 T Q 49 [(0, .int v0), (1, .int v1)] [] g := ms_go (stops := [(62, [0, 1])]) (n := 20) h
theorem b_ntz_62 (h : if v0 ≤ 4 then ms_V cd_J6_numberOfTrailingZeros_0f7a4 none 1 T Q 74 [(0, .int v0), (1, .int v1)] [] g else ms_V cd_J6_numberOfTrailingZeros_0f7a4 none 1 T Q 74 [(0, .int ((v0.toUInt32 >>> (Int32.toUInt32 2 &&& Int32.toUInt32 31)).toInt32)), (1, .int (v1 + 2))] [] g) : ms_V cd_J6_numberOfTrailingZeros_0f7a4 none 1 T Q 62 [(0, .int v0), (1, .int v1)] [] g := ms_go (stops := [(74, [0, 1])]) (n := 20) h
theorem b_ntz_74 (h : Q (some (.int (ntz74 v0 v1))) g) : ms_V cd_J6_numberOfTrailingZeros_0f7a4 none 1 T Q 74 [(0, .int v0), (1, .int v1)] [] g := ms_go (stops := []) (n := 20) h
theorem p_ntz62 (h : Q (some (.int (ntz62 v0 v1))) g) : ms_V cd_J6_numberOfTrailingZeros_0f7a4 none 1 T Q 62 [(0, .int v0), (1, .int v1)] [] g := by
  unfold ntz62 at h
  refine b_ntz_62 (ms_ite2 (fun e => ?_) (fun e => ?_))
  · rw [if_pos e] at h; exact b_ntz_74 h
  · rw [if_neg e] at h; exact b_ntz_74 h
theorem p_ntz49 (h : Q (some (.int (ntz49 v0 v1))) g) : ms_V cd_J6_numberOfTrailingZeros_0f7a4 none 1 T Q 49 [(0, .int v0), (1, .int v1)] [] g := by
  unfold ntz49 at h
  refine b_ntz_49 (ms_ite2 (fun e => ?_) (fun e => ?_))
  · rw [if_pos e] at h; exact p_ntz62 h
  · rw [if_neg e] at h; exact p_ntz62 h
theorem p_ntz34 (h : Q (some (.int (ntz34 v0 v1))) g) : ms_V cd_J6_numberOfTrailingZeros_0f7a4 none 1 T Q 34 [(0, .int v0), (1, .int v1)] [] g := by
  unfold ntz34 at h
  refine b_ntz_34 (ms_ite2 (fun e => ?_) (fun e => ?_))
  · rw [if_pos e] at h; exact p_ntz49 h
  · rw [if_neg e] at h; exact p_ntz49 h
theorem p_ntz17 (h : Q (some (.int (ntz17 v0))) g) : ms_V cd_J6_numberOfTrailingZeros_0f7a4 none 1 T Q 17 [(0, .int v0)] [] g := by
  unfold ntz17 at h
  refine b_ntz_17 (ms_ite2 (fun e => ?_) (fun e => ?_))
  · rw [if_pos e] at h; exact p_ntz34 h
  · rw [if_neg e] at h; exact p_ntz34 h
theorem p_ntz0 (h : Q (some (.int (ntz0 v0))) g) : ms_V cd_J6_numberOfTrailingZeros_0f7a4 none 1 T Q 0 [(0, .int v0)] [] g := by
  unfold ntz0 at h
  refine b_ntz_0 (ms_ite2 (fun e => ?_) (fun e => ?_))
  · rw [if_pos e] at h; exact p_ntz17 h
  · rw [if_neg e] at h; exact h
end Ntz
theorem ntz_ok : ∀ x, x < 512 → x ≠ 0 → ntz0 (nI x) = nI (lowk x 9) := by decide +kernel
theorem c_ntz {d x : Nat} {g : ms_S} (hx : x < 512) (h0 : x ≠ 0) : ms_Cl (d + 1) 256 [.int (nI x)] g (some (.int (nI (lowk x 9)))) g :=
  m_J6_numberOfTrailingZeros_0f7a4 (Nat.le_refl _) (Nat.le_refl _) (p_ntz0 ⟨by rw [ntz_ok x hx h0], rfl⟩)
/-- an answer and cells with a property -/
def fV (S : Nat → Bool) (X : cx_T) (t : ms_S) (P : Int32 → cx_T → Prop) (r : Option Value) (g' : ms_S) : Prop := ∃ Y v, cx_fr S X Y ∧ g' = ms_x Y t ∧ r = some (.int v) ∧ P v Y
def fR (c : Nat) : Bool := decide (c = 21 ∨ c = 22)
theorem fR_C : ∀ c, fC c = false → fR c = false := fun c h => decide_eq_false (fun z => of_decide_eq_false h (by omega))
def rwi (x : Nat) : Nat := if x = 0 then 9 else lowk x 9
/-- row r holds what the choice x costs -/
def RW (A : ab_T) (p : Nat) (S : List Nat) (X : cx_T) (r x : Nat) : Prop := (∀ j, j < (ab_l A p).length → cx_a X 21 (r * 12 + j) = nI (ck_m (q_lf A p S j) x S.length)) ∧ cx_a X 22 r = nI (ck_o (q_op A p S) x S.length)
section Chr
variable {d b i j k n p o e f u v x y s r : Nat} {X Y Z : cx_T} {t : ms_S} {A : ab_T} {S : List Nat} {K : Int32 → ms_S → Prop}
theorem mx_v1 {S : Nat → Bool} {y : Nat} {as : List Value} {P : Int32 → cx_T → Prop} (hh : ms_H' d y as (ms_x X t) (fV S X t P)) (hk : ∀ Y v, cx_fr S X Y → P v Y → K v (ms_x Y t)) : ms_c1 (ms_Cl d y as (ms_x X t)) K :=
  mx_c1 hh (fun r g' ⟨Y, v, h1, h2, h3, h4⟩ => ⟨v, h3, by rw [h2]; exact hk Y v h1 h4⟩)
theorem mx_n0 {S : Nat → Bool} {y : Nat} {as : List Value} {P : cx_T → Prop} {K : ms_S → Prop} (hh : ms_H' d y as (ms_x X t) (fN S X t P)) (hk : ∀ Y, cx_fr S X Y → P Y → K (ms_x Y t)) : ms_c0 (ms_Cl d y as (ms_x X t)) K :=
  mx_c0 hh (fun r g' ⟨Y, h1, h2, h3, h4⟩ => ⟨h3, by rw [h2]; exact hk Y h1 h4⟩)
theorem fV_l {S : Nat → Bool} {P : Int32 → cx_T → Prop} : ∀ r g', fV S X t P r g' → (ms_x X t).length ≤ g'.length ∧ ms_tot (ms_x X t) ≤ ms_tot g' := by
  intro r g' h
  obtain ⟨Y, v, _, e, _⟩ := h
  rw [e]
  exact ⟨ms_x_l, ms_x_t⟩
theorem fN_l {S : Nat → Bool} {P : cx_T → Prop} : ∀ r g', fN S X t P r g' → (ms_x X t).length ≤ g'.length ∧ ms_tot (ms_x X t) ≤ ms_tot g' := by
  intro r g' h
  obtain ⟨Y, _, e, _⟩ := h
  rw [e]
  exact ⟨ms_x_l, ms_x_t⟩
theorem fQ_l {S : Nat → Bool} {v : Int32} : ∀ r g', fQ S X t v r g' → (ms_x X t).length ≤ g'.length ∧ ms_tot (ms_x X t) ≤ ms_tot g' := by
  intro r g' h
  obtain ⟨Y, _, e, _⟩ := h
  rw [e]
  exact ⟨ms_x_l, ms_x_t⟩
theorem mn_nI {a c : Nat} (ha : a < 2 ^ 31) (hc : c < 2 ^ 31) : (if nI c < nI a then nI c else nI a) = nI (min a c) := by
  by_cases h : c < a
  · rw [if_pos ((ms_nlt hc ha).mpr h), Nat.min_eq_right (by omega)]
  · rw [if_neg (fun z => h ((ms_nlt hc ha).mp z)), Nat.min_eq_left (by omega)]
theorem CK_fr (h : CK A b p S X) (f : cx_fr fR X Y) : CK A b p S Y := by
  obtain ⟨⟨a1, a2, a3, a4⟩, a5, a6, a7, a8⟩ := h
  refine ⟨⟨?_, ?_, ?_, fun i hi => ?_⟩, ?_, a6, fun s hs => ?_, fun s j hs hj => ?_⟩
  · rw [f.2.1 rfl]; exact a1
  · rw [(f.1 15 rfl).1]; exact a2
  · rw [(f.1 15 rfl).1]; exact a3
  · rw [(f.1 17 rfl).2, (f.1 18 rfl).2]; exact a4 i hi
  · rw [(f.1 15 rfl).1]; exact a5
  · rw [(f.1 16 rfl).2]; exact a7 s hs
  · rw [(f.1 19 rfl).2, (f.1 20 rfl).2]; exact a8 s j hs hj
theorem pw_512 {m : Nat} (hm : m ≤ 9) (hx : x < 2 ^ m) : x < 512 := Nat.lt_of_lt_of_le hx (Nat.pow_le_pow_right (by decide) hm)
theorem lw_m {m : Nat} (hm : m ≤ 9) (hx : x < 2 ^ m) (h0 : x ≠ 0) : lowk x 9 < m := by
  obtain ⟨_, a2, _⟩ := lowk_lt 9 x h0 (pw_512 hm hx)
  by_cases h : lowk x 9 < m
  · exact h
  · rw [tb_lt hx (by omega)] at a2
    cases a2
theorem rst_le : rst x ≤ x := Nat.and_le_left
theorem rwi_le (hx : x < 512) : rwi x ≤ 9 := by
  unfold rwi
  by_cases h : x = 0
  · rw [if_pos h]; exact Nat.le_refl _
  · rw [if_neg h]
    have := (lowk_lt 9 x h hx).1
    omega
theorem q_lf_le {i s : Nat} : q_lf A p S i s ≤ NW := ab_lf_le
theorem q_op_le {s : Nat} : q_op A p S s ≤ 1000 := ab_open_le
theorem q_lk_le {i : Nat} : q_lk A p i ≤ 5000 := ab_look_le
/-- the row made: from place j on -/
theorem k_rf82 (hC : CK A b p S X) (hn : (ab_l A p).length ≤ 12) (hx : x < 2 ^ S.length) (h0 : x ≠ 0) (hw : y ≤ 9) (hR : RW A p S X y (rst x)) (hyk : y ≠ lowk x 9) : ∀ r j Y, j + r = (ab_l A p).length → cx_fr fR X Y → (∀ i, i < j → cx_a Y 21 (lowk x 9 * 12 + i) = nI (ck_m (q_lf A p S i) x S.length)) → (∀ c, (c < lowk x 9 * 12 ∨ lowk x 9 * 12 + 12 ≤ c) → cx_a Y 21 c = cx_a X 21 c) → (∀ c, cx_a Y 22 c = cx_a X 22 c) → ms_V cd_X1_rowFor none 1 (ms_Cl d) (fV fR X t (fun v Y => v = nI (lowk x 9) ∧ RW A p S Y (lowk x 9) x ∧ ∀ r z, r ≠ lowk x 9 → RW A p S X r z → RW A p S Y r z)) 82 [(0, .ref 15), (3, .int (nI (lowk x 9))), (4, .int (nI y)), (5, .int (nI j))] [] (ms_x Y t) := by
  have hm := hC.2.2.1
  obtain ⟨k9, k1, k2⟩ := lowk_lt 9 x h0 (pw_512 hm hx)
  have hkm := lw_m hm hx h0
  have hlow := rst_low k1 k2
  generalize lowk x 9 = k at *
  intro r
  induction r with
  | zero =>
    intro j Y hj hf ha hb hc
    have hCY := CK_fr hC hf
    refine b_X1_rowFor_82 (ms_oI_i xf_15_3 ?_)
    rw [hCY.1.2.2.1]
    refine ms_yes ((ms_nle (by omega) (by omega)).mpr (by omega)) ?_
    simp only [xf_15_11, xf_15_5, ms_oR_e, xr_22, xr_16, xw_22]
    refine ⟨ms_in (by omega) (by decide), ms_in (by omega) (by decide), ms_in (by omega) (by decide), ?_⟩
    rw [ms_nc (by omega), ms_nc (by omega), hc, hR.2, hCY.2.2.2.1 k hkm, ms_p1]
    refine ⟨_, _, fr_a hf rfl, rfl, rfl, rfl, ⟨fun i hi => ?_, ?_⟩, fun r z hr hz => ⟨fun i hi => ?_, ?_⟩⟩
    · rw [cx_a_ua, if_neg (fun z => by omega)]
      exact ha i (by omega)
    · rw [cx_a_ua, if_pos ⟨rfl, rfl⟩, ck_o_low hlow, if_pos hkm]
    · rw [cx_a_ua, if_neg (fun z => by omega), hb _ (by omega)]
      exact hz.1 i hi
    · rw [cx_a_ua, if_neg (fun z => hr z.2), hc]
      exact hz.2
  | succ r ih =>
    intro j Y hj hf ha hb hc
    have hCY := CK_fr hC hf
    refine b_X1_rowFor_82 (ms_oI_i xf_15_3 ?_)
    rw [hCY.1.2.2.1]
    refine ms_no (fun z => by rw [ms_nle (by omega) (by omega)] at z; omega) ?_
    have e1 : (nI y * 12) + nI j = nI (y * 12 + j) := ix_12
    have e2 : (nI k * 12) + nI j = nI (k * 12 + j) := ix_12
    rw [e1, e2]
    simp only [xf_15_10, xf_15_8, ms_oR_e, xr_21, xr_19, xw_21]
    refine ⟨ms_in (by omega) (by decide), ms_in (by omega) (by decide), ms_in (by omega) (by decide), ?_⟩
    have hl : ck_m (q_lf A p S j) (rst x) S.length ≤ NW := ck_m_le _
    have hq : q_lf A p S j k ≤ NW := q_lf_le
    unfold NW at hl hq
    rw [ms_nc (by omega), ms_nc (by omega), hb _ (by omega), hR.1 j (by omega), (hCY.2.2.2.2 k j hkm (by omega)).1, mn_nI (by omega) (by omega), show nI j + 1 = nI (j + 1) from ms_p1 1]
    refine ih (j + 1) _ (by omega) (fr_a hf rfl) (fun i hi => ?_) (fun c hc2 => ?_) (fun c => ?_)
    · rw [cx_a_ua]
      by_cases hij : i = j
      · rw [if_pos ⟨rfl, by rw [hij]⟩, hij, ck_m_low hlow, if_pos hkm]
      · rw [if_neg (fun z => by omega)]
        exact ha i (by omega)
    · rw [cx_a_ua, if_neg (fun z => by omega)]
      exact hb c hc2
    · rw [cx_a_ua, if_neg (fun z => by omega)]
      exact hc c
theorem k_rf52 (hn : (ab_l A p).length ≤ 12) : ms_V cd_X1_rowFor none 1 (ms_Cl (d + 2)) (fV fR X t (fun v Y => v = nI 9 ∧ RW A p S Y 9 0 ∧ ∀ r z, r < 9 → RW A p S X r z → RW A p S Y r z)) 52 [(0, .ref 15)] [] (ms_x X t) := by
  refine b_X1_rowFor_52 ?_
  simp only [xf_15_10, ms_oR_e, xl_21]
  have k := c_fillr (d := d) (a := 108) (b := 120) (v := 100000000) (cx_get (c := 21) (X := X) (t := t) (v := .inl (0, 120, .inl (cx_a X 21))) rfl) (by decide) (by decide) (by decide)
  rw [cx_set (X := X) _ (cx_sa X 21 (ms_fillr (cx_a X 21) 108 120 100000000)) rfl (by decide)] at k
  refine ms_c0_i k ?_
  simp only [xf_15_11, ms_oR_e, xw_22]
  refine ⟨ms_in (k := 9) (by decide) (by decide), ?_⟩
  refine ⟨_, _, fr_a (fr_sa fr_0 rfl) rfl, rfl, rfl, rfl, ⟨fun i hi => ?_, ?_⟩, fun r z hr hz => ⟨fun i hi => ?_, ?_⟩⟩
  · rw [cx_a_ua, if_neg (fun z => by omega), cx_a_sa]
    unfold ms_fillr
    rw [if_pos (by omega), ck_m_0 _ (fun s _ => Nat.zero_testBit s)]
    rfl
  · rw [cx_a_ua, if_pos ⟨rfl, by decide⟩, ck_o_0 (fun s _ => Nat.zero_testBit s)]
    rfl
  · rw [cx_a_ua, if_neg (fun z => by omega), cx_a_sa]
    unfold ms_fillr
    rw [if_neg (by omega)]
    exact hz.1 i hi
  · rw [cx_a_ua, if_neg (fun z => by have := z.2; rw [show (9 : Int32).toNatClampNeg = 9 by decide] at this; omega)]
    exact hz.2
theorem k_rowFor (hC : CK A b p S X) (hn : (ab_l A p).length ≤ 12) (hx : x < 2 ^ S.length) (hR : x ≠ 0 → RW A p S X (rwi (rst x)) (rst x)) : ms_H' (d + 3) 28 [.ref 15, .int (nI x)] (ms_x X t) (fV fR X t (fun v Y => v = nI (rwi x) ∧ RW A p S Y (rwi x) x ∧ ∀ r z, r ≤ 9 → r ≠ rwi x → RW A p S X r z → RW A p S Y r z)) := by
  have hm := hC.2.2.1
  have h512 := pw_512 hm hx
  refine mx_m (fun a b c => m_X1_rowFor a b ⟨_, xo_15⟩ c) fV_l (b_X1_rowFor_0 ?_)
  have hz : (nI x = 0) ↔ x = 0 := Iff.of_eq (ms_nI_eq (m := 0) (by omega) (by decide))
  by_cases h0 : x = 0
  · subst h0
    have e : (nI 0 &&& (nI 0 - 1)) = 0 := by decide
    refine ms_yes rfl (ms_yes e (ms_yes rfl ?_))
    refine ms_V_mono (k_rf52 (d := d) (A := A) (p := p) (S := S) hn) (fun r g' h => ?_)
    obtain ⟨Y, v, h1, h2, h3, h4, h5, h6⟩ := h
    exact ⟨Y, v, h1, h2, h3, h4, h5, fun r z hr hr2 hz => h6 r z (by have : r ≠ 9 := hr2; omega) hz⟩
  · have hrw : rwi x = lowk x 9 := by unfold rwi; rw [if_neg h0]
    obtain ⟨k9, k1, k2⟩ := lowk_lt 9 x h0 h512
    have hlow := rst_low k1 k2
    have er : (nI x &&& (nI x - 1)) = nI (rst x) := by
      rw [show (1 : Int32) = nI 1 from rfl, sb_nI (by omega), an_nI (by omega) (by omega)]
      rfl
    have hR := hR h0
    have hr512 : rst x < 512 := Nat.lt_of_le_of_lt rst_le h512
    have hz2 : (nI (rst x) = 0) ↔ rst x = 0 := Iff.of_eq (ms_nI_eq (m := 0) (by omega) (by decide))
    have fin : ∀ y, y = rwi (rst x) → ms_V cd_X1_rowFor none 1 (ms_Cl (d + 2)) (fV fR X t (fun v Y => v = nI (rwi x) ∧ RW A p S Y (rwi x) x ∧ ∀ r z, r ≤ 9 → r ≠ rwi x → RW A p S X r z → RW A p S Y r z)) 82 [(0, .ref 15), (3, .int (nI (lowk x 9))), (4, .int (nI y)), (5, .int 0)] [] (ms_x X t) := by
      intro y hy
      have hyk : y ≠ lowk x 9 := by
        intro z
        rw [hy] at z
        unfold rwi at z
        by_cases hr0 : rst x = 0
        · rw [if_pos hr0] at z; omega
        · rw [if_neg hr0] at z
          have := (lowk_lt 9 _ hr0 hr512).2.1
          rw [z, hlow.2.2.1] at this
          cases this
      refine ms_V_mono (k_rf82 (d := d + 2) (y := y) hC hn hx h0 (by rw [hy]; exact rwi_le hr512) (by rw [hy]; exact hR) hyk (ab_l A p).length 0 X (by omega) fr_0 (fun i hi => absurd hi (Nat.not_lt_zero i)) (fun c _ => rfl) (fun c => rfl)) (fun r g' h => ?_)
      obtain ⟨Y, v, h1, h2, h3, h4, h5, h6⟩ := h
      rw [hrw]
      exact ⟨Y, v, h1, h2, h3, h4, h5, fun r z hr hr2 hz => h6 r z hr2 hz⟩
    refine ms_no (fun z => h0 (hz.mp z)) (ms_c1_i (c_ntz h512 h0) ?_)
    rw [er]
    have hk9 : ¬ (9 : Int32) ≤ nI (lowk x 9) := by
      rw [show (9 : Int32) = nI 9 from rfl, ms_nle (by decide) (by omega)]
      omega
    by_cases hr0 : rst x = 0
    · refine ms_yes (hz2.mpr hr0) (ms_no (fun z => h0 (hz.mp z)) (ms_no hk9 (ms_yes (by decide) ?_)))
      exact fin 9 (by unfold rwi; rw [if_pos hr0])
    · have k3 := (lowk_lt 9 _ hr0 hr512).1
      refine ms_no (fun z => hr0 (hz2.mp z)) (ms_c1_i (c_ntz hr512 hr0) (ms_no (fun z => h0 (hz.mp z)) (ms_no hk9 (ms_yes ?_ ?_))))
      · rw [show (9 : Int32) = nI 9 from rfl, ms_nle (by omega) (by decide)]
        omega
      · exact fin _ (by unfold rwi; rw [if_neg hr0])
/-- what a choice costs out of its row -/
theorem k_sumAt (hC : CK A b p S X) (hn : (ab_l A p).length ≤ 12) (hr : r ≤ 9) (hR : RW A p S X r x) : ms_Cl (d + 1) 29 [.ref 15, .int (nI r)] (ms_x X t) (some (.int (nI (ck_s (q_op A p S) (q_lk A p) (q_lf A p S) S.length (ab_l A p).length x)))) (ms_x X t) := by
  refine m_X1_sumAt (Nat.le_refl _) (Nat.le_refl _) ⟨_, xo_15⟩ (b_X1_sumAt_0 (Q := ms_lf _ _) ?_)
  simp only [xf_15_11, ms_oR_e, xr_22]
  refine ⟨ms_in (by omega) (by decide), ?_⟩
  rw [ms_nc (by omega), hR.2]
  suffices H : ∀ q j, j + q = (ab_l A p).length → ms_V cd_X1_sumAt none 1 (ms_Cl d) (ms_lf (some (.int (nI (ck_s (q_op A p S) (q_lk A p) (q_lf A p S) S.length (ab_l A p).length x)))) (ms_x X t)) 9 [(0, .ref 15), (1, .int (nI r)), (2, .int (nI (ck_o (q_op A p S) x S.length + sm (fun i => min (q_lk A p i) (ck_m (q_lf A p S i) x S.length)) j))), (3, .int (nI j))] [] (ms_x X t) from H (ab_l A p).length 0 (by omega)
  intro q
  induction q with
  | zero =>
    intro j hj
    refine b_X1_sumAt_9 (ms_oI_i xf_15_3 ?_)
    rw [hC.1.2.2.1]
    refine ms_yes ((ms_nle (by omega) (by omega)).mpr (by omega)) ⟨?_, rfl⟩
    rw [show j = (ab_l A p).length by omega]
    rfl
  | succ q ih =>
    intro j hj
    refine b_X1_sumAt_9 (ms_oI_i xf_15_3 ?_)
    rw [hC.1.2.2.1]
    refine ms_no (fun z => by rw [ms_nle (by omega) (by omega)] at z; omega) ?_
    have e1 : (nI r * 12) + nI j = nI (r * 12 + j) := ix_12
    rw [e1]
    simp only [xf_15_6, xf_15_10, ms_oR_e, xr_17, xr_21]
    refine ⟨ms_in (by omega) (by decide), ms_in (by omega) (by decide), ?_⟩
    have hl : ck_m (q_lf A p S j) x S.length ≤ NW := ck_m_le _
    have hq := q_lk_le (A := A) (p := p) (i := j)
    unfold NW at hl
    rw [ms_nc (by omega), ms_nc (by omega), hR.1 j (by omega), (hC.1.2.2.2 j (by omega)).1, mn_nI (by omega) (by omega), show nI j + 1 = nI (j + 1) from ms_p1 1, ms_p1]
    have H := ih (j + 1) (by omega)
    rw [show sm (fun i => min (q_lk A p i) (ck_m (q_lf A p S i) x S.length)) (j + 1) = sm (fun i => min (q_lk A p i) (ck_m (q_lf A p S i) x S.length)) j + min (q_lk A p j) (ck_m (q_lf A p S j) x S.length) from rfl, ← Nat.add_assoc] at H
    exact H
end Chr
