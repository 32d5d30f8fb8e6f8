/-! THE MODEL'S READER: behind a sum, behind a test; written by wip/whole/mdl.py from zw_bh.txt -/
def cmq (k : Nat) : Nat := if k = 60 then 24 else if k = 62 then 25 else 26
section Bh
variable {b : Nat → Nat} {n s lv op c k d p arg pos q le : Nat} {h t g : ms_S} {M N M0 : md_T} {L P Q : pl_T} {o a : Nat → Nat} {x : Nat × Nat} {S : Nat → Bool} {tst : Int32}
theorem c0m {R : Option Value → ms_S → Prop} {k k' : ms_S → Prop} (hk : ∀ g, k g → k' g) (hh : ms_c0 R k) : ms_c0 R k' := by
  obtain ⟨g, h1, h2⟩ := hh
  exact ⟨g, h1, hk g h2⟩
theorem sq_le : ∀ (Q : pl_T) (o a : Nat → Nat) (c : Nat), c ≤ (sq Q o a c).2.2 ∧ (sq Q o a c).2.2 ≤ c + Q.length := by
  intro Q
  induction Q with
  | nil => intro o a c; exact ⟨Nat.le_refl _, Nat.le_refl _⟩
  | cons x r ih =>
    intro o a c
    rw [sq, List.length_cons]
    split
    · have := ih o (fun i => if i = x.2 then c else a i) c
      omega
    · have := ih (fun i => if i = c then x.1 else o i) (fun i => if i = c then 0 else a i) (c + 1)
      omega
theorem ib_app : ∀ (Q : pl_T), (∀ x, x ∈ Q → 1 ≤ bd x.1) → ib (Q ++ P) = ib P
  | [], _ => rfl
  | x :: r, hq => by
    have h1 := bd_lt (hq x List.mem_cons_self)
    show (if 30 ≤ x.1 then nI x.1 else ib (r ++ P)) = ib P
    rw [if_neg (by omega), ib_app r (fun y hy => hq y (List.mem_cons_of_mem _ hy))]
theorem n_bsA (hM : ZS b n s lv (Q ++ P) op c o a M) (hq : (tkc b n s = 43 ∧ q = 20) ∨ (tkc b n s = 45 ∧ q = 21) ∨ (tkc b n s = 42 ∧ q = 22) ∨ (tkc b n s = 47 ∧ q = 23)) (hQ : ∀ x, x ∈ Q → bd q ≤ bd x.1) (hb : bt P < bd q) : ms_H' (d + 5) 193 [.ref h.length, .int tst] (ms_m h M t) (gTn h M t (fun v N => v = 1 ∧ ZS b n (tkx b n s) lv ((q, 0) :: P) op (sq Q o a c).2.2 (sq Q o a c).1 (sq Q o a c).2.1 N)) := by
  have hsn := hM.sn
  have gt := tok_gt hsn (show tkc b n s ≠ 301 by omega)
  have hq2 : 20 ≤ q ∧ q < 24 := by omega
  have hbd : 1 ≤ bd q := by
    unfold bd
    rw [if_neg (by omega), if_neg (by omega), if_neg (by omega), if_neg (by omega), if_neg (by omega)]
    split <;> decide
  have hbd8 := bd7 q
  have h57 : ms_V cd_X9_behindSum none 1 (ms_Cl (d + 4)) (gTn h M t (fun v N => v = 1 ∧ ZS b n (tkx b n s) lv ((q, 0) :: P) op (sq Q o a c).2.2 (sq Q o a c).1 (sq Q o a c).2.1 N)) 57 [(0, .ref h.length), (1, .int tst)] [.int (nI q)] (ms_m h M t) := by
    have hne : ¬ nI q = -1 := fun y => by
      have := congrArg Int32.toInt y
      rw [nI_toInt (by omega)] at this
      have e : (-1 : Int32).toInt = -1 := by decide
      rw [e] at this
      omega
    refine b_X9_behindSum_57 (ms_no hne (ms_c1_i (n_binds (d := d + 3) (by omega)) (ms_settle (d := d + 2) hbd (by omega) hM hQ hb (fun N f hN => ?_))))
    have hcs := hN.cs
    rw [show (0 : Int32) = nI 0 from rfl]
    exact ms_pn (d := d + 1) hN ⟨hq2.1, by omega⟩ (by decide) (by omega) (fun N2 f2 hN2 => ⟨N2, 1, mr_t f f2, rfl, rfl, rfl, hN2⟩)
  refine mx_m (fun a b c => m_X9_behindSum a b ⟨_, ms_m_0⟩ c) gTn_l (b_X9_behindSum_0 ?_)
  rcases hq with ⟨z, e⟩ | ⟨z, e⟩ | ⟨z, e⟩ | ⟨z, e⟩
  · subst e
    exact ms_sign (v := 43) (d := d + 3) hM (by decide) (by decide) (by decide) (fun _ => ms_no (by decide) h57) (fun y => absurd z y)
  · subst e
    refine ms_sign (v := 43) (d := d + 3) hM (by decide) (by decide) (by decide) (fun y => absurd (z.symm.trans y) (by decide)) (fun _ => ms_yes rfl ?_)
    exact ms_sign (v := 45) (d := d + 3) hM (by decide) (by decide) (by decide) (fun _ => ms_no (by decide) h57) (fun y => absurd z y)
  · subst e
    refine ms_sign (v := 43) (d := d + 3) hM (by decide) (by decide) (by decide) (fun y => absurd (z.symm.trans y) (by decide)) (fun _ => ms_yes rfl ?_)
    refine ms_sign (v := 45) (d := d + 3) hM (by decide) (by decide) (by decide) (fun y => absurd (z.symm.trans y) (by decide)) (fun _ => ms_yes rfl ?_)
    exact ms_sign (v := 42) (d := d + 3) hM (by decide) (by decide) (by decide) (fun _ => ms_no (by decide) h57) (fun y => absurd z y)
  · subst e
    refine ms_sign (v := 43) (d := d + 3) hM (by decide) (by decide) (by decide) (fun y => absurd (z.symm.trans y) (by decide)) (fun _ => ms_yes rfl ?_)
    refine ms_sign (v := 45) (d := d + 3) hM (by decide) (by decide) (by decide) (fun y => absurd (z.symm.trans y) (by decide)) (fun _ => ms_yes rfl ?_)
    refine ms_sign (v := 42) (d := d + 3) hM (by decide) (by decide) (by decide) (fun y => absurd (z.symm.trans y) (by decide)) (fun _ => ms_yes rfl ?_)
    exact ms_sign (v := 47) (d := d + 3) hM (by decide) (by decide) (by decide) (fun _ => ms_no (by decide) h57) (fun y => absurd z y)
/-- none of the four signs -/
def nar (k : Nat) : Prop := ¬ k = 43 ∧ ¬ k = 45 ∧ ¬ k = 42 ∧ ¬ k = 47
theorem n_bs0 {R : Int32 → md_T → Prop} (hM : ZS b n s lv L op c o a M) (hn : nar (tkc b n s)) (h57 : ms_V cd_X9_behindSum none 1 (ms_Cl (d + 4)) (gTn h M t R) 57 [(0, .ref h.length), (1, .int tst)] [.int (-1)] (ms_m h M t)) : ms_H' (d + 5) 193 [.ref h.length, .int tst] (ms_m h M t) (gTn h M t R) := by
  refine mx_m (fun a b c => m_X9_behindSum a b ⟨_, ms_m_0⟩ c) gTn_l (b_X9_behindSum_0 ?_)
  refine ms_sign (v := 43) (d := d + 3) hM (by decide) (by decide) (by decide) (fun y => absurd y hn.1) (fun _ => ms_yes rfl ?_)
  refine ms_sign (v := 45) (d := d + 3) hM (by decide) (by decide) (by decide) (fun y => absurd y hn.2.1) (fun _ => ms_yes rfl ?_)
  refine ms_sign (v := 42) (d := d + 3) hM (by decide) (by decide) (by decide) (fun y => absurd y hn.2.2.1) (fun _ => ms_yes rfl ?_)
  exact ms_sign (v := 47) (d := d + 3) hM (by decide) (by decide) (by decide) (fun y => absurd y hn.2.2.2) (fun _ => ms_yes rfl h57)
/-- a square bracket's end -/
theorem n_bsS (hM : ZS b n s lv (Q ++ (31, pos) :: P) (op + 1) c o a M) (hn : nar (tkc b n s)) (hQ : ∀ x, x ∈ Q → 5 ≤ bd x.1) : ms_H' (d + 5) 193 [.ref h.length, .int tst] (ms_m h M t) (gTn h M t (fun v N => if tkc b n s = 93 then v = 3 ∧ ZS b n (tkx b n s) lv P op (sq Q o a c).2.2 (sq Q o a c).1 (sq Q o a c).2.1 N else MB (tkp b n s) N)) := by
  have hsn := hM.sn
  refine n_bs0 hM hn (b_X9_behindSum_57 (ms_yes rfl (ms_c1_i (n_inner (d := d + 3) hM.mp) ?_)))
  rw [ib_app Q (fun y hy => by have := hQ y hy; omega), show ib ((31, pos) :: P) = nI 31 from rfl]
  refine ms_yes rfl ?_
  refine ms_sign (v := 93) (d := d + 3) hM (by decide) (by decide) (by decide) (fun z => ?_) (fun z => ?_)
  · have gt := tok_gt hsn (show tkc b n s ≠ 301 by omega)
    refine ms_mustY (d := d + 1) hM (fun N f hN => ms_oI_i mm_f14 (ms_yes hN.bad ?_)) (by omega)
    refine ms_settle (le := 5) (d := d + 2) (by decide) (by decide) hN hQ (show bd 31 < 5 by decide) (fun N2 f2 hN2 => ms_oI_i mm_f23 ?_)
    rw [hN2.mp.2.1, List.length_cons, ms_nI_m1, mm_p23]
    have hN3 := MS_po hN2
    have f3 : md_fr gXr M (md_ui N2 23 (nI P.length)) := mr_i (mr_t f f2) rfl
    generalize md_ui N2 23 (nI P.length) = N3 at hN3 f3 ⊢
    refine ms_oI_i mm_f24 ?_
    rw [hN3.2.2.2.2.2.2.1, ms_nI_m1, mm_p24]
    have h8 := hN3.2.2.2.2.2.2.2.1
    refine b_X9_behindSum_136 ⟨_, 3, mr_i f3 rfl, rfl, rfl, ?_⟩
    exact ms_yes z ⟨rfl, MS_op hN3 (by omega)⟩
  · refine ms_mustN (d := d + 3) hM (fun N f hN => ms_oI_i mm_f14 ?_)
    rw [hN.1]
    refine ms_no (by decide) (b_X9_behindSum_136 ⟨N, 3, f, rfl, rfl, ?_⟩)
    exact ms_no z hN
/-- all over -/
theorem n_bsO (hM : ZS b n s lv L op c o a M) (hn : nar (tkc b n s)) (hi : ib L = -1) : ms_H' (d + 5) 193 [.ref h.length, .int 0] (ms_m h M t) (gTn h M t (fun v N => v = 4 ∧ ZS b n s lv L op c o a N)) := by
  refine n_bs0 hM hn (b_X9_behindSum_57 (ms_yes rfl (ms_c1_i (n_inner (d := d + 3) hM.mp) ?_)))
  rw [hi]
  exact ms_no (by decide) (ms_yes rfl (ms_yes rfl ⟨M, 4, mr_0, rfl, rfl, rfl, hM⟩))
theorem n_bs1 {R : Int32 → md_T → Prop} (hM : ZS b n s lv L op c o a M) (hn : nar (tkc b n s)) (h31 : ¬ ib L = 31) (hi : ib L = -1 → ¬ tst = 0) (h149 : ms_V cd_X9_behindSum none 1 (ms_Cl (d + 4)) (gTn h M t R) 149 [(0, .ref h.length)] [] (ms_m h M t)) : ms_H' (d + 5) 193 [.ref h.length, .int tst] (ms_m h M t) (gTn h M t R) := by
  refine n_bs0 hM hn (b_X9_behindSum_57 (ms_yes rfl (ms_c1_i (n_inner (d := d + 3) hM.mp) (ms_no h31 ?_))))
  exact ms_ite2 (fun z => ms_no (hi z) h149) (fun _ => h149)
/-- compared already -/
theorem n_bsT (hM : ZS b n s lv L op c o a M) (hn : nar (tkc b n s)) (h31 : ¬ ib L = 31) (hi : ib L = -1 → ¬ tst = 0) (hc : isc L = true) : ms_H' (d + 5) 193 [.ref h.length, .int tst] (ms_m h M t) (gTn h M t (fun v N => v = 2 ∧ ZS b n s lv L op c o a N)) := by
  refine n_bs1 hM hn h31 hi (b_X9_behindSum_149 (ms_c1_i (n_isCompared (d := d + 2) hM.mp) ?_))
  rw [hc]
  exact ms_no (by decide) ⟨M, 2, mr_0, rfl, rfl, rfl, hM⟩
/-- a comparison's sign -/
theorem n_bsC (hM : ZS b n s lv (Q ++ P) op c o a M) (hn : nar (tkc b n s)) (h31 : ¬ ib (Q ++ P) = 31) (hi : ib (Q ++ P) = -1 → ¬ tst = 0) (hc : isc (Q ++ P) = false) (hQ : ∀ x, x ∈ Q → 5 ≤ bd x.1) (hb : bt P < 5) : ms_H' (d + 5) 193 [.ref h.length, .int tst] (ms_m h M t) (gTn h M t (fun v N => if tkc b n s = 60 ∨ tkc b n s = 62 ∨ tkc b n s = 61 then v = 1 ∧ ZS b n (tkx b n s) lv ((cmq (tkc b n s), 0) :: P) op (sq Q o a c).2.2 (sq Q o a c).1 (sq Q o a c).2.1 N else MB (tkp b n s) N)) := by
  have hsn := hM.sn
  have h40 := hM.n4
  have hcs := hM.cs
  rw [List.length_append] at hcs
  have hsq := (sq_le Q o a c).2
  refine n_bs1 hM hn h31 hi (b_X9_behindSum_149 (ms_c1_i (n_isCompared (d := d + 2) hM.mp) ?_))
  rw [hc]
  refine ms_yes rfl ?_
  have fin : ∀ q, q = cmq (tkc b n s) → (tkc b n s = 60 ∨ tkc b n s = 62 ∨ tkc b n s = 61) → ms_c0 (ms_Cl (d + 4) 179 [.ref h.length, .int 1] (ms_m h M t)) fun g17 => ms_oI (ms_fldI g17 h.length 9 14) fun x18 => if x18 = 0 then (ms_c0 (ms_Cl (d + 4) 184 [.ref h.length, .int 5] g17) fun g19 => ms_c0 (ms_Cl (d + 4) 182 [.ref h.length, .int (nI q), .int 0] g19) fun g20 => gTn h M t (fun v N => if tkc b n s = 60 ∨ tkc b n s = 62 ∨ tkc b n s = 61 then v = 1 ∧ ZS b n (tkx b n s) lv ((cmq (tkc b n s), 0) :: P) op (sq Q o a c).2.2 (sq Q o a c).1 (sq Q o a c).2.1 N else MB (tkp b n s) N) (some (.int 1)) g20) else (gTn h M t (fun v N => if tkc b n s = 60 ∨ tkc b n s = 62 ∨ tkc b n s = 61 then v = 1 ∧ ZS b n (tkx b n s) lv ((cmq (tkc b n s), 0) :: P) op (sq Q o a c).2.2 (sq Q o a c).1 (sq Q o a c).2.1 N else MB (tkp b n s) N) (some (.int 1)) g17) := by
    intro q hq hz
    have gt := tok_gt hsn (show tkc b n s ≠ 301 by omega)
    have hx : tkx b n s ≤ n := (tok_nx hsn).1
    have hq3 : 20 ≤ q ∧ q < 32 := by
      rw [hq]
      unfold cmq
      split
      · decide
      split <;> decide
    refine ms_mustY (d := d + 1) hM (fun N f hN => ms_oI_i mm_f14 (ms_yes hN.bad ?_)) (by omega)
    refine ms_settle (le := 5) (d := d + 2) (by decide) (by decide) hN hQ hb (fun N2 f2 hN2 => ?_)
    rw [show (0 : Int32) = nI 0 from rfl]
    refine ms_c0_i (n_push (d := d + 3) hN2.mp (by omega)) ⟨_, 1, pu_fr (mr_t f f2) rfl rfl rfl, rfl, rfl, ?_⟩
    have hZ := MS_pu (pos := 0) hN2 (by omega) hq3 (by decide)
    rw [hq] at hZ ⊢
    exact ms_yes hz ⟨rfl, hZ⟩
  refine ms_sign (v := 60) (d := d + 3) hM (by decide) (by decide) (by decide) (fun z => ms_no (by decide) (ms_no (by decide) (fin 24 (by unfold cmq; rw [if_pos z]) (Or.inl z)))) (fun z60 => ms_yes rfl ?_)
  refine ms_sign (v := 62) (d := d + 3) hM (by decide) (by decide) (by decide) (fun z => ms_no (by decide) (ms_no (by decide) (fin 25 (by unfold cmq; rw [if_neg z60, if_pos z]) (Or.inr (Or.inl z))))) (fun z62 => ms_yes rfl (ms_yes rfl ?_))
  refine ms_sign (v := 61) (d := d + 3) hM (by decide) (by decide) (by decide) (fun z => ms_no (by decide) (fin 26 (by unfold cmq; rw [if_neg z60, if_neg z62]) (Or.inr (Or.inr z)))) (fun z61 => ms_yes rfl ?_)
  refine ms_mustN (d := d + 3) hM (fun N f hN => ms_oI_i mm_f14 ?_)
  rw [hN.1]
  refine ms_no (by decide) ⟨N, 1, f, rfl, rfl, ?_⟩
  exact ms_no (by omega) hN
/-- and, or -/
theorem tok_2 (hb : ∀ k, k < n → b k < 256) (hs : s ≤ n) (hz : tkc b n s = 274 ∨ tkc b n s = 275) : s + 2 ≤ tkx b n s := by
  have h0 : s ≤ skp b n s := run_ge n s
  have hz' := hz
  unfold tkc at hz'
  unfold tkx
  by_cases h1 : n ≤ skp b n s
  · rw [tok_e h1] at hz'
    omega
  · have h1 : skp b n s < n := by omega
    cases h2 : ltr (b (skp b n s)) with
    | true =>
      rw [tok_w h1 h2] at hz' ⊢
      have h3 := run_ge (P := ltr) (b := b) (n := n) n (skp b n s + 1)
      show s + 2 ≤ run ltr b n n (skp b n s + 1)
      by_cases h4 : run ltr b n n (skp b n s + 1) = skp b n s + 1
      · exfalso
        rw [h4] at hz'
        have h5 : byts b (skp b n s) (skp b n s + 1) = [b (skp b n s)] := by
          unfold byts
          rw [Nat.add_sub_cancel_left]
          rfl
        rw [h5] at hz'
        have h6 : wd [b (skp b n s)] = 302 := by
          have : ∀ (W : List (List Nat)) (k : Nat), (∀ w, w ∈ W → w.length ≠ 1) → wdn [b (skp b n s)] W k = 302 := by
            intro W
            induction W with
            | nil => intro k _; rfl
            | cons w r ih =>
              intro k hw
              unfold wdn
              rw [if_neg (fun z => hw w List.mem_cons_self (by rw [z]; rfl))]
              exact ih (k + 1) (fun y hy => hw y (List.mem_cons_of_mem _ hy))
          exact this WL 256 (by decide)
        rw [h6] at hz'
        omega
      · omega
    | false =>
      cases h3 : dgt (b (skp b n s)) with
      | true =>
        rw [tok_d h1 h2 h3] at hz'
        omega
      | false =>
        rw [tok_s h1 h2 h3] at hz'
        have hz' : b (skp b n s) = 274 ∨ b (skp b n s) = 275 := hz'
        have := hb _ h1
        omega
theorem n_btA (hM : ZS b n s lv (Q ++ P) op c o a M) (hq : (tkc b n s = 275 ∧ q = 28 ∧ le = 2) ∨ (tkc b n s = 274 ∧ q = 29 ∧ le = 1)) (h2 : s + 2 ≤ tkx b n s) (hQ : ∀ x, x ∈ Q → le ≤ bd x.1) (hb : bt P < le) : ms_H' (d + 5) 194 [.ref h.length] (ms_m h M t) (gTn h M t (fun v N => v = 0 ∧ ZS b n (tkx b n s) lv ((q, (sq Q o a c).2.2) :: P) op ((sq Q o a c).2.2 + 1) (fun i => if i = (sq Q o a c).2.2 then q else (sq Q o a c).1 i) (fun i => if i = (sq Q o a c).2.2 then 0 else (sq Q o a c).2.1 i) N)) := by
  refine mx_m (fun a b c => m_X9_behindTest a b ⟨_, ms_m_0⟩ c) gTn_l (b_X9_behindTest_0 ?_)
  rcases hq with ⟨z, e1, e2⟩ | ⟨z, e1, e2⟩
  · subst e1
    subst e2
    refine ms_word (k := 19) (d := d + 3) hM (by decide) rfl (by unfold isL; decide) (fun _ => ms_no (by decide) (b_X9_behindTest_22 (ms_no (by decide) ?_))) (fun y => absurd z y)
    refine ms_settle (le := 2) (d := d + 2) (by decide) (by decide) hM hQ hb (fun N f hN => ms_no (by decide) (ms_oI_i mm_f17 ?_))
    have hcs := hN.cs
    rw [hN.mp.1]
    exact c0m (fun g hg => ms_no (by decide) hg) (ms_pen (q := 28) (d := d + 1) hN (by decide) (by omega) (fun N2 f2 hN2 => ⟨N2, 0, mr_t f f2, rfl, rfl, rfl, hN2⟩))
  · subst e1
    subst e2
    refine ms_word (k := 19) (d := d + 3) hM (by decide) rfl (by unfold isL; decide) (fun y => absurd (z.symm.trans y) (by decide)) (fun _ => ms_yes rfl ?_)
    refine ms_word (k := 18) (d := d + 3) hM (by decide) rfl (by unfold isL; decide) (fun _ => ms_no (by decide) (b_X9_behindTest_22 (ms_yes rfl ?_))) (fun y => absurd z y)
    refine ms_settle (le := 1) (d := d + 2) (by decide) (by decide) hM hQ hb (fun N f hN => ms_yes rfl (ms_oI_i mm_f17 ?_))
    have hcs := hN.cs
    rw [hN.mp.1]
    exact c0m (fun g hg => ms_yes rfl hg) (ms_pen (q := 29) (d := d + 1) hN (by decide) (by omega) (fun N2 f2 hN2 => ⟨N2, 0, mr_t f f2, rfl, rfl, rfl, hN2⟩))
theorem n_btO (hM : ZS b n s lv L op c o a M) (h1 : ¬ tkc b n s = 275) (h2 : ¬ tkc b n s = 274) (hi : ib L = -1) : ms_H' (d + 5) 194 [.ref h.length] (ms_m h M t) (gTn h M t (fun v N => v = 4 ∧ ZS b n s lv L op c o a N)) := by
  refine mx_m (fun a b c => m_X9_behindTest a b ⟨_, ms_m_0⟩ c) gTn_l (b_X9_behindTest_0 ?_)
  refine ms_word (k := 19) (d := d + 3) hM (by decide) rfl (by unfold isL; decide) (fun y => absurd y h1) (fun _ => ms_yes rfl ?_)
  refine ms_word (k := 18) (d := d + 3) hM (by decide) rfl (by unfold isL; decide) (fun y => absurd y h2) (fun _ => ms_yes rfl (ms_c1_i (n_inner (d := d + 3) hM.mp) ?_))
  rw [hi]
  exact ms_yes rfl ⟨M, 4, mr_0, rfl, rfl, rfl, hM⟩
/-- a round bracket's end -/
theorem n_btB (hM : ZS b n s lv (Q ++ (30, pos) :: P) (op + 1) c o a M) (h1 : ¬ tkc b n s = 275) (h2 : ¬ tkc b n s = 274) (hQ : ∀ x, x ∈ Q → 1 ≤ bd x.1) : ms_H' (d + 5) 194 [.ref h.length] (ms_m h M t) (gTn h M t (fun v N => if tkc b n s = 41 then v = 2 ∧ ZS b n (tkx b n s) lv P op (sq Q o a c).2.2 (sq Q o a c).1 (sq Q o a c).2.1 N else MB (tkp b n s) N)) := by
  have hsn := hM.sn
  refine mx_m (fun a b c => m_X9_behindTest a b ⟨_, ms_m_0⟩ c) gTn_l (b_X9_behindTest_0 ?_)
  refine ms_word (k := 19) (d := d + 3) hM (by decide) rfl (by unfold isL; decide) (fun y => absurd y h1) (fun _ => ms_yes rfl ?_)
  refine ms_word (k := 18) (d := d + 3) hM (by decide) rfl (by unfold isL; decide) (fun y => absurd y h2) (fun _ => ms_yes rfl (ms_c1_i (n_inner (d := d + 3) hM.mp) ?_))
  rw [ib_app Q hQ, show ib ((30, pos) :: P) = nI 30 from rfl]
  refine ms_no (by decide) ?_
  refine ms_sign (v := 41) (d := d + 3) hM (by decide) (by decide) (by decide) (fun z => ?_) (fun z => ?_)
  · have gt := tok_gt hsn (show tkc b n s ≠ 301 by omega)
    refine ms_mustY (d := d + 1) hM (fun N f hN => ms_oI_i mm_f14 (ms_yes hN.bad ?_)) (by omega)
    refine ms_settle (le := 1) (d := d + 2) (by decide) (by decide) hN hQ (show bd 30 < 1 by decide) (fun N2 f2 hN2 => ms_oI_i mm_f23 ?_)
    rw [hN2.mp.2.1, List.length_cons, ms_nI_m1, mm_p23]
    have hN3 := MS_po hN2
    have f3 : md_fr gXr M (md_ui N2 23 (nI P.length)) := mr_i (mr_t f f2) rfl
    generalize md_ui N2 23 (nI P.length) = N3 at hN3 f3 ⊢
    refine ms_oI_i mm_f24 ?_
    rw [hN3.2.2.2.2.2.2.1, ms_nI_m1, mm_p24]
    have h8 := hN3.2.2.2.2.2.2.2.1
    refine ⟨_, 2, mr_i f3 rfl, rfl, rfl, ?_⟩
    exact ms_yes z ⟨rfl, MS_op hN3 (by omega)⟩
  · refine ms_mustN (d := d + 3) hM (fun N f hN => ms_oI_i mm_f14 ?_)
    rw [hN.1]
    refine ms_no (by decide) ⟨N, 2, f, rfl, rfl, ?_⟩
    exact ms_no z hN
end Bh
