/-! THE MODEL'S READER at work: leaves, brackets, words; written by wip/whole/mdl.py from zu_ms.txt -/
def gXr (k : Nat) : Bool := decide (9 ≤ k ∧ k ≤ 24 ∧ k ≠ 15 ∧ k ≠ 16)
/-- at work: the token from s on, so many leaves, the pile, brackets open, the code -/
def ZS (b : Nat → Nat) (n s lv : Nat) (L : pl_T) (op c : Nat) (o a : Nat → Nat) (M : md_T) : Prop := TP M b n ∧ TK b n s M ∧ s ≤ n ∧ (md_i M 14 = 0 ∧ md_i M 13 = -1) ∧ md_i M 20 = nI lv ∧ lv ≤ 50 ∧ md_i M 24 = nI op ∧ op ≤ 8 ∧ c + L.length ≤ s ∧ MP c L o a M
/-- it can't be -/
def MB (p : Nat) (M : md_T) : Prop := md_i M 14 = 1 ∧ md_i M 13 = nI p ∧ ∃ c L o a, MP c L o a M
def gTn (h : ms_S) (M : md_T) (t : ms_S) (P : Int32 → md_T → Prop) (r : Option Value) (g' : ms_S) : Prop := ∃ N v, md_fr gXr M N ∧ g' = ms_m h N t ∧ r = some (.int v) ∧ P v N
section Ms
variable {b : Nat → Nat} {n s lv op c k d p arg pos : Nat} {h t g : ms_S} {M N M0 : md_T} {L P Q : pl_T} {o a : Nat → Nat} {x : Nat × Nat} {S : Nat → Bool}
theorem TK_eq (hK : TK b n s M) (h9 : md_i N 9 = md_i M 9) (h10 : md_i N 10 = md_i M 10) (h11 : md_i N 11 = md_i M 11) (h12 : md_l N 12 = md_l M 12) : TK b n s N := by
  unfold TK
  rw [h9, h10, h11, h12]
  exact hK
theorem TP_eq (hT : TP M b n) (h8 : md_i N 8 = md_i M 8) (h7 : ∀ k, md_a N 7 k = md_a M 7 k) : TP N b n := ⟨hT.1, by rw [h8]; exact hT.2.1, fun k hk => by rw [h7]; exact hT.2.2 k hk⟩
theorem MP_fr (hM : MP c L o a M) (f : md_fr S M N) (h17 : S 17 = false) (h18 : S 18 = false) (h19 : S 19 = false) (h21 : S 21 = false) (h22 : S 22 = false) (h23 : S 23 = false) : MP c L o a N := by
  obtain ⟨h1, h2, h3, h4, h5⟩ := hM
  exact ⟨by rw [(f 17 h17).1]; exact h1, by rw [(f 23 h23).1]; exact h2, h3, fun i hi => by rw [(f 18 h18).2.2.1, (f 19 h19).2.2.1]; exact h4 i hi, pl_eq h5 (fun i _ => ⟨(f 21 h21).2.2.1 i, (f 22 h22).2.2.1 i⟩)⟩
theorem ZS.tp (hM : ZS b n s lv L op c o a M) : TP M b n := hM.1
theorem ZS.tk (hM : ZS b n s lv L op c o a M) : TK b n s M := hM.2.1
theorem ZS.sn (hM : ZS b n s lv L op c o a M) : s ≤ n := hM.2.2.1
theorem ZS.bad (hM : ZS b n s lv L op c o a M) : md_i M 14 = 0 := hM.2.2.2.1.1
theorem ZS.mp (hM : ZS b n s lv L op c o a M) : MP c L o a M := hM.2.2.2.2.2.2.2.2.2
theorem ZS.cs (hM : ZS b n s lv L op c o a M) : c + L.length ≤ s := hM.2.2.2.2.2.2.2.2.1
theorem ZS.n4 (hM : ZS b n s lv L op c o a M) : n ≤ 400 := hM.1.1
theorem ZS.by (hM : ZS b n s lv L op c o a M) : ∀ k, k < n → b k < 256 := fun k hk => (hM.1.2.2 k hk).2
theorem MS_next (hM : ZS b n s lv L op c o a M) (f : md_fr g12 M N) (hK : TK b n (tkx b n s) N) (hlt : s ≤ tkx b n s) : ZS b n (tkx b n s) lv L op c o a N := by
  obtain ⟨h1, h2, h3, h4, h5, h6, h7, h8, h9, h10⟩ := hM
  exact ⟨TP_eq h1 (f 8 rfl).1 (f 7 rfl).2.2.1, hK, (tok_nx h3).1, ⟨by rw [(f 14 rfl).1]; exact h4.1, by rw [(f 13 rfl).1]; exact h4.2⟩, by rw [(f 20 rfl).1]; exact h5, h6, by rw [(f 24 rfl).1]; exact h7, h8, by omega, MP_fr h10 f rfl rfl rfl rfl rfl rfl⟩
theorem MS_em (hM : ZS b n s lv L op c o a M) (hc : c + 1 + L.length ≤ s) {q : Nat} (hq : q < 30) (harg : arg < 2 ^ 30) : ZS b n s lv L op (c + 1) (fun i => if i = c then q else o i) (fun i => if i = c then arg else a i) (emM M c q arg) := by
  have h40 := hM.n4
  obtain ⟨h1, h2, h3, h4, h5, h6, h7, h8, h9, h10⟩ := hM
  exact ⟨TP_eq h1 (emM_i (by decide)) (fun k => by unfold emM; rw [md_a_ui, md_a_ua, if_neg (show ¬ (7 = 19 ∧ k = c) by omega), md_a_ua, if_neg (show ¬ (7 = 18 ∧ k = c) by omega)]), TK_eq h2 (emM_i (by decide)) (emM_i (by decide)) (emM_i (by decide)) rfl, h3, ⟨by rw [emM_i (by decide)]; exact h4.1, by rw [emM_i (by decide)]; exact h4.2⟩, by rw [emM_i (by decide)]; exact h5, h6, by rw [emM_i (by decide)]; exact h7, h8, hc, em_MP h10 (by omega) hq harg⟩
theorem MS_pu (hM : ZS b n s lv L op c o a M) (hc : c + (L.length + 1) ≤ s) {q : Nat} (hq : 20 ≤ q ∧ q < 32) (hpos : pos < 400) : ZS b n s lv ((q, pos) :: L) op c o a (puM M L.length q pos) := by
  have h40 := hM.n4
  obtain ⟨h1, h2, h3, h4, h5, h6, h7, h8, h9, h10⟩ := hM
  exact ⟨TP_eq h1 (pu_i (by decide)) (fun k => by unfold puM; rw [md_a_ui, md_a_ua, if_neg (show ¬ (7 = 22 ∧ k = L.length) by omega), md_a_ua, if_neg (show ¬ (7 = 21 ∧ k = L.length) by omega)]), TK_eq h2 (pu_i (by decide)) (pu_i (by decide)) (pu_i (by decide)) rfl, h3, ⟨by rw [pu_i (by decide)]; exact h4.1, by rw [pu_i (by decide)]; exact h4.2⟩, by rw [pu_i (by decide)]; exact h5, h6, by rw [pu_i (by decide)]; exact h7, h8, hc, pu_MP h10 (by omega) hq hpos⟩
theorem MP_ui (hM : MP c L o a M) {q : Nat} {v : Int32} (h17 : q ≠ 17) (h23 : q ≠ 23) : MP c L o a (md_ui M q v) := by
  obtain ⟨h1, h2, h3, h4, h5⟩ := hM
  exact ⟨by rw [md_i_ne h17.symm]; exact h1, by rw [md_i_ne h23.symm]; exact h2, h3, h4, h5⟩
theorem MS_lv (hM : ZS b n s lv L op c o a M) (hl : lv < 50) : ZS b n s (lv + 1) L op c o a (md_ui M 20 (nI (lv + 1))) := by
  obtain ⟨h1, h2, h3, h4, h5, h6, h7, h8, h9, h10⟩ := hM
  exact ⟨TP_i h1 (by decide), TK_eq h2 (md_i_ne (by decide)) (md_i_ne (by decide)) (md_i_ne (by decide)) rfl, h3, ⟨by rw [md_i_ne (by decide)]; exact h4.1, by rw [md_i_ne (by decide)]; exact h4.2⟩, md_i_at, hl, by rw [md_i_ne (by decide)]; exact h7, h8, h9, MP_ui h10 (by decide) (by decide)⟩
theorem MS_op {op' : Nat} (hM : ZS b n s lv L op c o a M) (hl : op' ≤ 8) : ZS b n s lv L op' c o a (md_ui M 24 (nI op')) := by
  obtain ⟨h1, h2, h3, h4, h5, h6, h7, h8, h9, h10⟩ := hM
  exact ⟨TP_i h1 (by decide), TK_eq h2 (md_i_ne (by decide)) (md_i_ne (by decide)) (md_i_ne (by decide)) rfl, h3, ⟨by rw [md_i_ne (by decide)]; exact h4.1, by rw [md_i_ne (by decide)]; exact h4.2⟩, by rw [md_i_ne (by decide)]; exact h5, h6, md_i_at, hl, h9, MP_ui h10 (by decide) (by decide)⟩
theorem MS_po (hM : ZS b n s lv (x :: L) op c o a M) : ZS b n s lv L op c o a (md_ui M 23 (nI L.length)) := by
  obtain ⟨h1, h2, h3, h4, h5, h6, h7, h8, h9, h10⟩ := hM
  rw [List.length_cons] at h9
  exact ⟨TP_i h1 (by decide), TK_eq h2 (md_i_ne (by decide)) (md_i_ne (by decide)) (md_i_ne (by decide)) rfl, h3, ⟨by rw [md_i_ne (by decide)]; exact h4.1, by rw [md_i_ne (by decide)]; exact h4.2⟩, by rw [md_i_ne (by decide)]; exact h5, h6, by rw [md_i_ne (by decide)]; exact h7, h8, by omega, po_MP h10⟩
theorem MS_st {c' : Nat} {o' a' : Nat → Nat} (hM : ZS b n s lv L op c o a M) (f : md_fr gSt M N) (hP : MP c' P o' a' N) (hc : c' + P.length ≤ s) : ZS b n s lv P op c' o' a' N := by
  obtain ⟨h1, h2, h3, h4, h5, h6, h7, h8, h9, h10⟩ := hM
  exact ⟨TP_eq h1 (f 8 rfl).1 (f 7 rfl).2.2.1, TK_eq h2 (f 9 rfl).1 (f 10 rfl).1 (f 11 rfl).1 (f 12 rfl).2.1, h3, ⟨by rw [(f 14 rfl).1]; exact h4.1, by rw [(f 13 rfl).1]; exact h4.2⟩, by rw [(f 20 rfl).1]; exact h5, h6, by rw [(f 24 rfl).1]; exact h7, h8, hc, hP⟩
theorem MB_of (hM : ZS b n s lv L op c o a M) : MB (tkp b n s) (md_ui (md_ui M 14 1) 13 (md_i M 9)) := by
  refine ⟨by rw [md_i_ne (by decide), md_i_at], by rw [md_i_at]; exact (TK_at hM.tk).1, c, L, o, a, MP_ui (MP_ui hM.mp (by decide) (by decide)) (by decide) (by decide)⟩
theorem gX_12 (f : md_fr g12 M N) : md_fr gXr M N := mr_s f (fun c hc => decide_eq_false (fun z => of_decide_eq_false hc (by omega)))
theorem gX_st (f : md_fr gSt M N) : md_fr gXr M N := mr_s f (fun c hc => decide_eq_false (fun z => of_decide_eq_false hc (by omega)))
theorem gX_B : md_fr gXr M (md_ui (md_ui M 14 1) 13 (md_i M 9)) := mr_i (mr_i mr_0 rfl) rfl
/-- must, next -/
theorem ms_mustY (hM : ZS b n s lv L op c o a M) {K : ms_S → Prop} (hk : ∀ N, md_fr gXr M N → ZS b n (tkx b n s) lv L op c o a N → K (ms_m h N t)) (hlt : s ≤ tkx b n s) : ms_c0 (ms_Cl (d + 3) 179 [.ref h.length, .int 1] (ms_m h M t)) K :=
  my_n0 (n_mustY (d := d) hM.tp hM.tk hM.sn hM.bad) (fun N f hK => hk N (gX_12 f) (MS_next hM f hK hlt))
theorem ms_mustN (hM : ZS b n s lv L op c o a M) {K : ms_S → Prop} (hk : ∀ N, md_fr gXr M N → MB (tkp b n s) N → K (ms_m h N t)) : ms_c0 (ms_Cl (d + 1) 179 [.ref h.length, .int 0] (ms_m h M t)) K :=
  ms_c0_i (n_mustN hM.bad) (hk _ gX_B (MB_of hM))
theorem ms_next (hM : ZS b n s lv L op c o a M) {K : ms_S → Prop} (hk : ∀ N, md_fr gXr M N → ZS b n (tkx b n s) lv L op c o a N → K (ms_m h N t)) (hlt : s ≤ tkx b n s) : ms_c0 (ms_Cl (d + 2) 176 [.ref h.length] (ms_m h M t)) K :=
  my_n0 (n_next (d := d) hM.tp (TK_at hM.tk).2 (tok_nx hM.sn).1) (fun N f hK => hk N (gX_12 f) (MS_next hM f hK hlt))
theorem ms_settle {le : Nat} (hle : 1 ≤ le) (hle2 : le < 8) (hM : ZS b n s lv (Q ++ P) op c o a M) (hQ : ∀ x, x ∈ Q → le ≤ bd x.1) (hb : bt P < le) {K : ms_S → Prop} (hk : ∀ N, md_fr gXr M N → ZS b n s lv P op (sq Q o a c).2.2 (sq Q o a c).1 (sq Q o a c).2.1 N → K (ms_m h N t)) : ms_c0 (ms_Cl (d + 2) 184 [.ref h.length, .int (nI le)] (ms_m h M t)) K := by
  have sl : ∀ (Q : pl_T) (o a : Nat → Nat) (c : Nat), (sq Q o a c).2.2 ≤ c + Q.length := by
    intro Q
    induction Q with
    | nil => intro o a c; exact Nat.le_refl _
    | cons x r ih =>
      intro o a c
      rw [sq, List.length_cons]
      split
      · have := ih o (fun i => if i = x.2 then c else a i) c
        omega
      · have := ih (fun i => if i = c then x.1 else o i) (fun i => if i = c then 0 else a i) (c + 1)
        omega
  refine my_n0 (n_settle (d := d) hle hle2 hM.mp hQ hb) (fun N f hP => hk N (gX_st f) (MS_st hM f hP ?_))
  have h1 := hM.cs
  have h2 := sl Q o a c
  rw [List.length_append] at h1
  omega
theorem ms_sign {v : Nat} (hM : ZS b n s lv L op c o a M) (hv : v < 256) (h1 : ltr v = false) (h2 : dgt v = false) {K : Int32 → ms_S → Prop} (hy : tkc b n s = v → K 1 (ms_m h M t)) (hn : ¬ tkc b n s = v → K 0 (ms_m h M t)) : ms_c1 (ms_Cl (d + 1) 178 [.ref h.length, .int (nI v)] (ms_m h M t)) K := by
  refine ms_c1_i (n_isSign hM.tk hM.by hv h1 h2) ?_
  show K (ms_bi (decide (tkc b n s = v))) (ms_m h M t)
  by_cases z : tkc b n s = v
  · rw [decide_eq_true z]; exact hy z
  · rw [decide_eq_false z]; exact hn z
theorem ms_word {k : Nat} {w : List Nat} {x : Int64} (hM : ZS b n s lv L op c o a M) (hk : k < 21) (hw : WL[k]? = some w) (hx : isL x (hr w.reverse)) {K : Int32 → ms_S → Prop} (hy : tkc b n s = 256 + k → K 1 (ms_m h M t)) (hn : ¬ tkc b n s = 256 + k → K 0 (ms_m h M t)) : ms_c1 (ms_Cl (d + 1) 177 [.ref h.length, .long x] (ms_m h M t)) K := by
  refine ms_c1_i (n_isWord hM.tk hM.by hk hw hx) ?_
  show K (ms_bi (decide (tkc b n s = 256 + k))) (ms_m h M t)
  by_cases z : tkc b n s = 256 + k
  · rw [decide_eq_true z]; exact hy z
  · rw [decide_eq_false z]; exact hn z
theorem n_partAt (hM : ZS b n s lv L op c o a M) : ms_Cl (d + 2) 187 [.ref h.length] (ms_m h M t) (some (.int (if 256 ≤ tkc b n s ∧ tkc b n s < 263 then nI (tkc b n s - 256 + 1) else -1))) (ms_m h M t) := by
  refine m_X9_partAt (Nat.le_refl _) (Nat.le_refl _) ⟨_, ms_m_0⟩ (b_X9_partAt_0 (Q := ms_lf _ _) ?_)
  have R : (tkc b n s = 256 ∨ tkc b n s = 257 ∨ tkc b n s = 258 ∨ tkc b n s = 259) → ms_c1 (ms_Cl (d + 1) 177 [.ref h.length, .long 6591876] (ms_m h M t)) fun r34 g33 => if r34 = 0 then (ms_c1 (ms_Cl (d + 1) 177 [.ref h.length, .long 215533] g33) fun r36 g35 => if r36 = 0 then (ms_c1 (ms_Cl (d + 1) 177 [.ref h.length, .long 655] g35) fun r38 g37 => if r38 = 0 then (ms_lf (some (.int (if 256 ≤ tkc b n s ∧ tkc b n s < 263 then nI (tkc b n s - 256 + 1) else -1))) (ms_m h M t) (some (.int 4)) g37) else (ms_lf (some (.int (if 256 ≤ tkc b n s ∧ tkc b n s < 263 then nI (tkc b n s - 256 + 1) else -1))) (ms_m h M t) (some (.int 3)) g37)) else (ms_lf (some (.int (if 256 ≤ tkc b n s ∧ tkc b n s < 263 then nI (tkc b n s - 256 + 1) else -1))) (ms_m h M t) (some (.int 2)) g35)) else (ms_lf (some (.int (if 256 ≤ tkc b n s ∧ tkc b n s < 263 then nI (tkc b n s - 256 + 1) else -1))) (ms_m h M t) (some (.int 1)) g33) := by
    intro hz
    rw [if_pos (show 256 ≤ tkc b n s ∧ tkc b n s < 263 by omega)]
    refine ms_word (k := 0) hM (by decide) rfl (by unfold isL; decide) (fun z => ms_no (by decide) ⟨by rw [z]; rfl, rfl⟩) (fun z0 => ms_yes rfl ?_)
    refine ms_word (k := 1) hM (by decide) rfl (by unfold isL; decide) (fun z => ms_no (by decide) ⟨by rw [z]; rfl, rfl⟩) (fun z1 => ms_yes rfl ?_)
    refine ms_word (k := 2) hM (by decide) rfl (by unfold isL; decide) (fun z => ms_no (by decide) ⟨by rw [z]; rfl, rfl⟩) (fun z2 => ms_yes rfl ?_)
    refine ⟨?_, rfl⟩
    rw [show tkc b n s = 259 by omega]
    rfl
  refine ms_word (k := 0) hM (by decide) rfl (by unfold isL; decide) (fun z => ms_no (by decide) (R (by omega))) (fun z0 => ms_yes rfl ?_)
  refine ms_word (k := 1) hM (by decide) rfl (by unfold isL; decide) (fun z => ms_no (by decide) (R (by omega))) (fun z1 => ms_yes rfl ?_)
  refine ms_word (k := 2) hM (by decide) rfl (by unfold isL; decide) (fun z => ms_no (by decide) (R (by omega))) (fun z2 => ms_yes rfl ?_)
  refine ms_word (k := 3) hM (by decide) rfl (by unfold isL; decide) (fun z => ms_no (by decide) (R (by omega))) (fun z3 => ms_yes rfl ?_)
  refine ms_word (k := 4) hM (by decide) rfl (by unfold isL; decide) (fun z => ms_no (by decide) ⟨by rw [z]; rfl, rfl⟩) (fun z4 => ms_yes rfl ?_)
  refine ms_word (k := 5) hM (by decide) rfl (by unfold isL; decide) (fun z => ms_no (by decide) ⟨by rw [z]; rfl, rfl⟩) (fun z5 => ms_yes rfl ?_)
  refine ms_word (k := 6) hM (by decide) rfl (by unfold isL; decide) (fun z => ms_no (by decide) ⟨by rw [z]; rfl, rfl⟩) (fun z6 => ms_yes rfl ?_)
  refine ⟨?_, rfl⟩
  rw [if_neg (by omega)]
theorem n_plainAt (hM : ZS b n s lv L op c o a M) : ms_Cl (d + 2) 188 [.ref h.length] (ms_m h M t) (some (.int (if 263 ≤ tkc b n s ∧ tkc b n s < 268 then nI (tkc b n s - 256 + 5) else -1))) (ms_m h M t) := by
  refine m_X9_plainAt (Nat.le_refl _) (Nat.le_refl _) ⟨_, ms_m_0⟩ (b_X9_plainAt_0 (Q := ms_lf _ _) ?_)
  have R : (tkc b n s = 263 ∨ tkc b n s = 264 ∨ tkc b n s = 265) → ms_c1 (ms_Cl (d + 1) 177 [.ref h.length, .long 463922] (ms_m h M t)) fun r20 g19 => if r20 = 0 then (ms_c1 (ms_Cl (d + 1) 177 [.ref h.length, .long 646192] g19) fun r22 g21 => if r22 = 0 then (ms_lf (some (.int (if 263 ≤ tkc b n s ∧ tkc b n s < 268 then nI (tkc b n s - 256 + 5) else -1))) (ms_m h M t) (some (.int 14)) g21) else (ms_lf (some (.int (if 263 ≤ tkc b n s ∧ tkc b n s < 268 then nI (tkc b n s - 256 + 5) else -1))) (ms_m h M t) (some (.int 13)) g21)) else (ms_lf (some (.int (if 263 ≤ tkc b n s ∧ tkc b n s < 268 then nI (tkc b n s - 256 + 5) else -1))) (ms_m h M t) (some (.int 12)) g19) := by
    intro hz
    rw [if_pos (show 263 ≤ tkc b n s ∧ tkc b n s < 268 by omega)]
    refine ms_word (k := 7) hM (by decide) rfl (by unfold isL; decide) (fun z => ms_no (by decide) ⟨by rw [z]; rfl, rfl⟩) (fun z0 => ms_yes rfl ?_)
    refine ms_word (k := 8) hM (by decide) rfl (by unfold isL; decide) (fun z => ms_no (by decide) ⟨by rw [z]; rfl, rfl⟩) (fun z1 => ms_yes rfl ?_)
    refine ⟨?_, rfl⟩
    rw [show tkc b n s = 265 by omega]
    rfl
  refine ms_word (k := 7) hM (by decide) rfl (by unfold isL; decide) (fun z => ms_no (by decide) (R (by omega))) (fun z0 => ms_yes rfl ?_)
  refine ms_word (k := 8) hM (by decide) rfl (by unfold isL; decide) (fun z => ms_no (by decide) (R (by omega))) (fun z1 => ms_yes rfl ?_)
  refine ms_word (k := 9) hM (by decide) rfl (by unfold isL; decide) (fun z => ms_no (by decide) (R (by omega))) (fun z2 => ms_yes rfl ?_)
  refine ms_word (k := 10) hM (by decide) rfl (by unfold isL; decide) (fun z => ms_no (by decide) ⟨by rw [z]; rfl, rfl⟩) (fun z3 => ms_yes rfl ?_)
  refine ms_word (k := 11) hM (by decide) rfl (by unfold isL; decide) (fun z => ms_no (by decide) ⟨by rw [z]; rfl, rfl⟩) (fun z4 => ms_yes rfl ?_)
  refine ⟨?_, rfl⟩
  rw [if_neg (by omega)]
theorem n_openY {q : Nat} (hM : ZS b n s lv L op c o a M) (hq : q = 30 ∨ q = 31) (ho : op < 8) (hlt : s < tkx b n s) : ms_H' (d + 4) 189 [.ref h.length, .int (nI q)] (ms_m h M t) (gN gXr h M t (ZS b n (tkx b n s) lv ((q, 0) :: L) (op + 1) c o a)) := by
  have h24 := hM.2.2.2.2.2.2.1
  refine mx_m (fun a b c => m_X9_openBracket a b ⟨_, ms_m_0⟩ c) gN_l (b_X9_openBracket_0 (ms_oI_i mm_f24 ?_))
  rw [h24]
  refine ms_no (fun z => by rw [show (8 : Int32) = nI 8 from rfl, ms_nle (by decide) (by omega)] at z; omega) (ms_mustY (d := d) hM (fun N f hN => ms_oI_i mm_f14 (ms_yes hN.bad (ms_oI_i mm_f24 ?_))) (by omega))
  rw [hN.2.2.2.2.2.2.1, show nI op + 1 = nI (op + 1) from ms_p1 1, mm_p24]
  have hc := hM.cs
  have h40 := hM.n4
  have hsn := hM.sn
  have hx : tkx b n s ≤ n := (tok_nx hsn).1
  have hN2 := MS_op (op' := op + 1) hN (by omega)
  have f2 : md_fr gXr M (md_ui N 24 (nI (op + 1))) := mr_i f rfl
  rw [show (0 : Int32) = nI 0 from rfl]
  refine ms_c0_i (n_push (d := d + 2) hN2.mp (by omega)) ⟨_, pu_fr f2 rfl rfl rfl, rfl, rfl, MS_pu hN2 (by omega) (by omega) (by decide)⟩
theorem n_openN {v : Int32} (hM : ZS b n s lv L op c o a M) (ho : 8 ≤ op) : ms_H' (d + 2) 189 [.ref h.length, .int v] (ms_m h M t) (gN gXr h M t (MB (tkp b n s))) := by
  have h24 := hM.2.2.2.2.2.2.1
  have h8 := hM.2.2.2.2.2.2.2.1
  refine mx_m (fun a b c => m_X9_openBracket a b ⟨_, ms_m_0⟩ c) gN_l (b_X9_openBracket_0 (ms_oI_i mm_f24 ?_))
  rw [h24]
  refine ms_yes (by rw [show (8 : Int32) = nI 8 from rfl, ms_nle (by decide) (by omega)]; exact ho) (ms_mustN (d := d) hM (fun N f hN => ms_oI_i mm_f14 ?_))
  rw [hN.1]
  exact ms_no (by decide) ⟨N, f, rfl, rfl, hN⟩
theorem n_lfY {q : Nat} (hM : ZS b n s lv L op c o a M) (hq : q < 30) (harg : arg < 2 ^ 30) (hl : lv < 50) (hlt : s < tkx b n s) : ms_H' (d + 4) 190 [.ref h.length, .int 1, .int (nI q), .int (nI arg)] (ms_m h M t) (gN gXr h M t (ZS b n (tkx b n s) (lv + 1) L op (c + 1) (fun i => if i = c then q else o i) (fun i => if i = c then arg else a i))) := by
  have h20 := hM.2.2.2.2.1
  have hc := hM.cs
  have h40 := hM.n4
  have hsn := hM.sn
  have hx : tkx b n s ≤ n := (tok_nx hsn).1
  refine mx_m (fun a b c => m_X9_leaf a b ⟨_, ms_m_0⟩ c) gN_l (b_X9_leaf_0 (ms_no (by decide) (ms_oI_i mm_f20 ?_)))
  rw [h20]
  refine ms_no (fun z => by rw [show (50 : Int32) = nI 50 from rfl, ms_nle (by decide) (by omega)] at z; omega) (ms_mustY (d := d) hM (fun N f hN => ms_oI_i mm_f14 (ms_yes hN.bad ?_)) (by omega))
  refine ms_c0_i (n_emit (d := d + 2) hN.mp (by omega)) ?_
  have hN2 := MS_em (q := q) (arg := arg) hN (by omega) hq harg
  have f2 : md_fr gXr M (emM N c q arg) := em_fr f rfl rfl rfl
  generalize emM N c q arg = N2 at hN2 f2 ⊢
  refine ms_oI_i mm_f20 ?_
  rw [hN2.2.2.2.2.1, show nI lv + 1 = nI (lv + 1) from ms_p1 1, mm_p20]
  exact ⟨_, mr_i f2 rfl, rfl, rfl, MS_lv hN2 hl⟩
theorem n_lfN {v u : Int32} (hM : ZS b n s lv L op c o a M) (hl : 50 ≤ lv) : ms_H' (d + 2) 190 [.ref h.length, .int 1, .int v, .int u] (ms_m h M t) (gN gXr h M t (MB (tkp b n s))) := by
  have h20 := hM.2.2.2.2.1
  have h50 := hM.2.2.2.2.2.1
  refine mx_m (fun a b c => m_X9_leaf a b ⟨_, ms_m_0⟩ c) gN_l (b_X9_leaf_0 (ms_no (by decide) (ms_oI_i mm_f20 ?_)))
  rw [h20]
  refine ms_yes (by rw [show (50 : Int32) = nI 50 from rfl, ms_nle (by decide) (by omega)]; exact hl) (ms_mustN (d := d) hM (fun N f hN => ms_oI_i mm_f14 ?_))
  rw [hN.1]
  exact ms_no (by decide) ⟨N, f, rfl, rfl, hN⟩
theorem n_lf0 {v u : Int32} (hM : ZS b n s lv L op c o a M) : ms_H' (d + 2) 190 [.ref h.length, .int 0, .int v, .int u] (ms_m h M t) (gN gXr h M t (MB (tkp b n s))) := by
  refine mx_m (fun a b c => m_X9_leaf a b ⟨_, ms_m_0⟩ c) gN_l (b_X9_leaf_0 (ms_yes rfl (ms_mustN (d := d) hM (fun N f hN => ms_oI_i mm_f14 ?_))))
  rw [hN.1]
  exact ms_no (by decide) ⟨N, f, rfl, rfl, hN⟩
theorem tok_300 (hb : ∀ k, k < n → b k < 256) (h0 : tkc b n s = 300) : skp b n s < n ∧ ltr (b (skp b n s)) = false ∧ dgt (b (skp b n s)) = true := by
  unfold tkc at h0
  by_cases h1 : n ≤ skp b n s
  · rw [tok_e h1] at h0
    cases h0
  · have h1 : skp b n s < n := by omega
    cases h2 : ltr (b (skp b n s)) with
    | true =>
      rw [tok_w h1 h2] at h0
      have := wd_no (l := byts b (skp b n s) (run ltr b n n (skp b n s + 1)))
      have h0 : wd (byts b (skp b n s) (run ltr b n n (skp b n s + 1))) = 300 := h0
      omega
    | false =>
      cases h3 : dgt (b (skp b n s)) with
      | true => exact ⟨h1, rfl, rfl⟩
      | false =>
        rw [tok_s h1 h2 h3] at h0
        have h0 : b (skp b n s) = 300 := h0
        have := hb _ h1
        omega
end Ms
