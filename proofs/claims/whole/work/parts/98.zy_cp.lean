/-! THE MODEL READS AN EXPRESSION; written by wip/whole/gen_zy.py and mdl.py -/
abbrev HDr (d : Nat) (h t : ms_S) (tst : Int32) (QQ : Option Value → ms_S → Prop) (v : Int32) (M : md_T) : Prop := ms_V cd_X9_readExpression none 0 (ms_Cl (d + 6)) QQ 20 [(0, .ref h.length), (1, .int tst), (2, .int v)] [] (ms_m h M t)
def STT (b : Nat → Nat) (n : Nat) (v : Int32) (s : Nat) : Prop := v = 1 ∨ (v = 0 ∧ ¬ tkc b n s = 276 ∧ ¬ tkc b n s = 40 ∧ ¬ (263 ≤ tkc b n s ∧ tkc b n s < 268))
def cxt (tst : Int32) (P : pl_T) : Prop := ¬ ib P = 31 ∧ (ib P = -1 → ¬ tst = 0)
def KMr (b : Nat → Nat) (n d : Nat) (h t : ms_S) (tst : Int32) (QQ : Option Value → ms_S → Prop) (F k : Nat) (PR : Int32 → Nat → pl_T → Prop) (ll : Nat) (v' : Int32) : Prop := ∀ (M : md_T) (s lv : Nat) (P : pl_T) (dp c : Nat) (o a : Nat → Nat) (res : pr_T) (f0 : dn_T) (v : Int32), pz b n F k dp f0 s lv = some res → ZS b n s lv P dp c o a M → PR v s P → (∀ (N : md_T) (v : Int32) (p : Nat), res = .inr p → md_fr gXr M N → MB p N → HDr d h t tst QQ v N) → (∀ (N : md_T) (Q : pl_T) (c' : Nat) (o' a' : Nat → Nat) (f : dn_T) (s' lv' m : Nat), res = .inl (f, s', lv') → md_fr gXr M N → ZS b n s' lv' (Q ++ P) dp c' o' a' N → (∀ x, x ∈ Q → ll ≤ bd x.1) → (∀ i, i < c → o' i = o i ∧ a' i = a i) → PQ c f Q o' a' c' m → m + lv ≤ lv' → HDr d h t tst QQ v' N) → HDr d h t tst QQ v M
def KQr (b : Nat → Nat) (n d : Nat) (h t : ms_S) (tst : Int32) (QQ : Option Value → ms_S → Prop) (F k ll rq : Nat) (PC : pl_T → Prop) (DB : dn_T → Prop) (v' : Int32) : Prop := ∀ (M : md_T) (s lv lv0 : Nat) (P Q : pl_T) (dp c0 c : Nat) (o a : Nat → Nat) (m : Nat) (f1 : dn_T) (res : pr_T), pz b n F k dp f1 s lv = some res → ZS b n s lv (Q ++ P) dp c o a M → bt P < rq → PC P → DB f1 → (∀ x, x ∈ Q → ll ≤ bd x.1) → PQ c0 f1 Q o a c m → m + lv0 ≤ lv → (∀ (N : md_T) (v : Int32) (p : Nat), res = .inr p → md_fr gXr M N → MB p N → HDr d h t tst QQ v N) → (∀ (N : md_T) (Q' : pl_T) (c' : Nat) (o' a' : Nat → Nat) (f : dn_T) (s' lv' m' : Nat), res = .inl (f, s', lv') → md_fr gXr M N → ZS b n s' lv' (Q' ++ P) dp c' o' a' N → (∀ x, x ∈ Q' → ll ≤ bd x.1) → (∀ i, i < c0 → o' i = o i ∧ a' i = a i) → PQ c0 f Q' o' a' c' m' → m' + lv0 ≤ lv' → HDr d h t tst QQ v' N) → HDr d h t tst QQ v' M
def pr0 (tst v : Int32) (_ : Nat) (P : pl_T) : Prop := v = 0 ∧ bt P < 1 ∧ cxt tst P
def pr1 (tst v : Int32) (_ : Nat) (P : pl_T) : Prop := v = 0 ∧ bt P < 2 ∧ cxt tst P
def pr2 (tst v : Int32) (_ : Nat) (P : pl_T) : Prop := v = 0 ∧ bt P < 4 ∧ cxt tst P
def pr4 (b : Nat → Nat) (n : Nat) (tst v : Int32) (s : Nat) (P : pl_T) : Prop := STT b n v s ∧ bt P < 4 ∧ cxt tst P
def pr5 (b : Nat → Nat) (n : Nat) (v : Int32) (s : Nat) (P : pl_T) : Prop := STT b n v s ∧ bt P < 5
def pr6 (b : Nat → Nat) (n : Nat) (v : Int32) (s : Nat) (P : pl_T) : Prop := STT b n v s ∧ bt P < 6
def pr7 (b : Nat → Nat) (n : Nat) (v : Int32) (s : Nat) (_ : pl_T) : Prop := STT b n v s
def dbT (_ : dn_T) : Prop := True
def pcT (_ : pl_T) : Prop := True
section Cp2
variable {b : Nat → Nat} {n s lv op c k d p arg pos q le F : Nat} {h t g : ms_S} {M N M0 : md_T} {L P Q : pl_T} {o a : Nat → Nat} {x : Nat × Nat} {tst : Int32} {QQ : Option Value → ms_S → Prop} {res : pr_T} {v : Int32}
theorem hd_0 (hM : ZS b n s lv L op c o a M) (hk : ∀ N v, md_fr gXr M N → PPq b n s lv L op c o a v N → HDr d h t tst QQ v N) : HDr d h t tst QQ 0 M :=
  b_X9_readExpression_20 (ms_oI_i mm_f14 (ms_yes hM.bad (ms_no (by decide) (ms_yes rfl (tn_c1 (n_readPlain (d := d) hM) hk)))))
theorem hd_1 (hM : ZS b n s lv L op c o a M) (hk : ∀ N v, md_fr gXr M N → RPq b n s lv L op c o a v N → HDr d h t tst QQ v N) : HDr d h t tst QQ 1 M :=
  b_X9_readExpression_20 (ms_oI_i mm_f14 (ms_yes hM.bad (ms_no (by decide) (ms_no (by decide) (ms_yes rfl (tn_c1 (n_readPart (d := d + 1) hM) hk))))))
theorem hd_3 {R : Int32 → md_T → Prop} (hM : ZS b n s lv L op c o a M) (hh : ms_H' (d + 6) 193 [.ref h.length, .int tst] (ms_m h M t) (gTn h M t R)) (hk : ∀ N v, md_fr gXr M N → R v N → HDr d h t tst QQ v N) : HDr d h t tst QQ 3 M :=
  b_X9_readExpression_20 (ms_oI_i mm_f14 (ms_yes hM.bad (ms_no (by decide) (ms_no (by decide) (ms_no (by decide) (ms_yes rfl (tn_c1 hh hk)))))))
theorem hd_2 {R : Int32 → md_T → Prop} (hM : ZS b n s lv L op c o a M) (hh : ms_H' (d + 6) 194 [.ref h.length] (ms_m h M t) (gTn h M t R)) (hk : ∀ N v, md_fr gXr M N → R v N → HDr d h t tst QQ v N) : HDr d h t tst QQ 2 M :=
  b_X9_readExpression_20 (ms_oI_i mm_f14 (ms_yes hM.bad (ms_no (by decide) (ms_no (by decide) (ms_no (by decide) (ms_no (by decide) (tn_c1 hh hk)))))))
theorem hd_p (hM : ZS b n s lv L op c o a M) (hv : STT b n v s) (hk : ∀ N v, md_fr gXr M N → RPq b n s lv L op c o a v N → HDr d h t tst QQ v N) : HDr d h t tst QQ v M := by
  rcases hv with e | ⟨e, h1, h2, h3⟩
  · subst e
    exact hd_1 hM hk
  · subst e
    refine hd_0 hM (fun N v f hP => hk N v f ?_)
    unfold PPq at hP
    rw [if_neg h1, if_neg h2, if_neg h3] at hP
    exact hP
theorem m_part (hS : KMr b n d h t tst QQ F 5 (pr5 b n) 5 3) : KMr b n d h t tst QQ (F + 1) 7 (pr7 b n) 7 3 := by
  intro M s lv P dp c o a res f0 v hres hM hv hN hY
  rw [pz_7] at hres
  refine hd_p hM hv (fun N v' f hR => ?_)
  unfold RPq at hR
  by_cases h91 : tkc b n s = 91
  · rw [if_pos h91] at hres hR
    by_cases h8 : 8 ≤ dp
    · rw [if_pos h8] at hres hR
      exact hN N v' _ (Option.some.inj hres).symm f hR
    · rw [if_neg h8] at hres hR
      obtain ⟨e, hZ⟩ := hR
      subst e
      obtain ⟨r1, hr1⟩ := pzB_e hres
      rw [hr1] at hres
      refine hS N (tkx b n s) lv ((31, 0) :: P) (dp + 1) c o a r1 f0 1 hr1 hZ ⟨Or.inl rfl, (by decide : bd 31 < 5)⟩ (fun N2 v2 p2 e2 f2 hB => ?_) (fun N2 Q c2 o2 a2 g s2 lv2 m2 e2 f2 hZ2 hQ hag hPQ hm => ?_)
      · subst e2
        exact hN N2 v2 p2 (Option.some.inj hres).symm (mr_t f f2) hB
      · subst e2
        have hq : (if tkc b n s2 = 93 then some (.inl (g, tkx b n s2, lv2)) else some (.inr (tkp b n s2))) = some res := hres
        have htl : nar (tkc b n s2) := pz_tl _ _ _ _ _ _ _ hr1
        refine hd_3 hZ2 (n_bsS (d := d + 1) hZ2 htl hQ) (fun N3 v3 f3 hR3 => ?_)
        by_cases h93 : tkc b n s2 = 93
        · rw [if_pos h93] at hq hR3
          obtain ⟨e3, hZ3⟩ := hR3
          subst e3
          exact hY N3 [] _ _ _ g _ lv2 m2 (Option.some.inj hq).symm (mr_t f (mr_t f2 f3)) hZ3 (fun y hy => by cases hy) (fun i hi => ⟨(hPQ.2 i hi).1.trans (hag i hi).1, (hPQ.2 i hi).2.trans (hag i hi).2⟩) (PQ_nil hPQ.1) hm
        · rw [if_neg h93] at hq hR3
          exact hN N3 v3 _ (Option.some.inj hq).symm (mr_t f (mr_t f2 f3)) hR3
  · rw [if_neg h91] at hres hR
    by_cases hw : 256 ≤ tkc b n s ∧ tkc b n s < 263
    · rw [if_pos hw] at hres hR
      by_cases h5 : 50 ≤ lv
      · rw [if_pos h5] at hres hR
        exact hN N v' _ (Option.some.inj hres).symm f hR
      · rw [if_neg h5] at hres hR
        obtain ⟨e, hZ⟩ := hR
        subst e
        refine hY N [] _ _ _ _ _ _ 1 (Option.some.inj hres).symm f hZ (fun y hy => by cases hy) (fun i hi => ⟨if_neg (by omega), if_neg (by omega)⟩) (PQ_nil (CM_word (i := tkc b n s - 256) ?_ (by omega))) (by omega)
        show (if c = c then tkc b n s - 256 + 1 else o c) = _
        rw [if_pos rfl, if_pos (by omega)]
    · rw [if_neg hw] at hres hR
      by_cases h3 : tkc b n s = 300 ∧ tkn b n s ≤ 100000
      · rw [if_pos h3] at hres hR
        by_cases h5 : 50 ≤ lv
        · rw [if_pos h5] at hres hR
          exact hN N v' _ (Option.some.inj hres).symm f hR
        · rw [if_neg h5] at hres hR
          obtain ⟨e, hZ⟩ := hR
          subst e
          refine hY N [] _ _ _ _ _ _ 1 (Option.some.inj hres).symm f hZ (fun y hy => by cases hy) (fun i hi => ⟨if_neg (by omega), if_neg (by omega)⟩) (PQ_nil ?_) (by omega)
          have := CM_num (o := fun i => if i = c then 0 else o i) (a := fun i => if i = c then tkn b n s else a i) (s := c) (if_pos rfl)
          rw [show (if c = c then tkn b n s else a c) = tkn b n s from if_pos rfl] at this
          exact this
      · rw [if_neg h3] at hres hR
        exact hN N v' _ (Option.some.inj hres).symm f hR
theorem m_loopTerm (hT : KMr b n d h t tst QQ F 7 (pr7 b n) 7 3) (hL : KQr b n d h t tst QQ F 11 6 6 pcT dbT 3) : KQr b n d h t tst QQ (F + 1) 11 6 6 pcT dbT 3 := by
  intro M s lv lv0 P Q dp c0 c o a m f1 res hres hM hb hpc hdb hQ hPQ hm hN hY
  rw [pz_11] at hres
  by_cases ht : tkc b n s = 42 ∨ tkc b n s = 47
  · rw [if_pos ht] at hres
    obtain ⟨r1, hr1⟩ := pzB_e hres
    rw [hr1] at hres
    obtain ⟨q, hq, hbq, hzq, hq2⟩ : ∃ q, ((tkc b n s = 43 ∧ q = 20) ∨ (tkc b n s = 45 ∧ q = 21) ∨ (tkc b n s = 42 ∧ q = 22) ∨ (tkc b n s = 47 ∧ q = 23)) ∧ bd q = 6 ∧ z_sg q = tkc b n s ∧ (20 ≤ q ∧ q < 27) := by
      rcases ht with ht | ht
      · exact ⟨22, by omega, rfl, by rw [ht]; rfl, by decide⟩
      · exact ⟨23, by omega, rfl, by rw [ht]; rfl, by decide⟩
    refine hd_3 hM (n_bsA (d := d + 1) hM hq (fun y hy => by rw [hbq]; exact hQ y hy) (by rw [hbq]; exact hb)) (fun N v f hR => ?_)
    obtain ⟨e, hZ⟩ := hR
    subst e
    have w1 := hPQ.1.1
    refine hT N (tkx b n s) lv ((q, 0) :: P) dp _ _ _ r1 f1 1 hr1 hZ (Or.inl rfl) (fun N2 v2 p2 e2 f2 hB => ?_) (fun N2 Q2 c2 o2 a2 g s2 lv2 m2 e2 f2 hZ2 hQ2 hag hPQ2 hm2 => ?_)
    · subst e2
      exact hN N2 v2 p2 (Option.some.inj hres).symm (mr_t f f2) hB
    · subst e2
      have hqq : pz b n F 11 dp (dn_op (tkc b n s) f1 g) s2 lv2 = some res := hres
      have hZ3 : ZS b n s2 lv2 ((Q2 ++ [(q, 0)]) ++ P) dp c2 o2 a2 N2 := by
        rw [List.append_assoc]
        exact hZ2
      have hP3 := PQ_op (k := q) (hPQ.1.loc (fun i i1 i2 => hag i i2)) hPQ2 hq2
      rw [hzq] at hP3
      refine hL N2 s2 lv2 lv0 P (Q2 ++ [(q, 0)]) dp c0 c2 o2 a2 (m + m2) _ res hqq hZ3 hb trivial trivial (fun y hy => ?_) hP3 (by omega) (fun N3 v3 p3 e3 f3 hB => hN N3 v3 p3 e3 (mr_t f (mr_t f2 f3)) hB) (fun N3 Q3 c3 o3 a3 g3 s3 lv3 m3 e3 f3 hZ4 hQ3 hag3 hP4 hm3 => hY N3 Q3 c3 o3 a3 g3 s3 lv3 m3 e3 (mr_t f (mr_t f2 f3)) hZ4 hQ3 (fun i hi => ?_) hP4 hm3)
      · rcases List.mem_append.mp hy with hy | hy
        · have := hQ2 y hy
          omega
        · rw [List.mem_singleton.mp hy]
          show 6 ≤ bd q
          omega
      · have u1 := hag3 i hi
        have u2 := hag i (by omega)
        have u3 := hPQ.2 i hi
        exact ⟨u1.1.trans (u2.1.trans u3.1), u1.2.trans (u2.2.trans u3.2)⟩
  · rw [if_neg ht] at hres
    exact hY M Q c o a f1 s lv m (Option.some.inj hres).symm mr_0 hM hQ (fun i hi => ⟨rfl, rfl⟩) hPQ hm
theorem m_Term (hT : KMr b n d h t tst QQ F 7 (pr7 b n) 7 3) (hL : KQr b n d h t tst QQ F 11 6 6 pcT dbT 3) : KMr b n d h t tst QQ (F + 1) 6 (pr6 b n) 6 3 := by
  intro M s lv P dp c o a res f0 v hres hM hv hN hY
  rw [pz_6] at hres
  obtain ⟨r1, hr1⟩ := pzB_e hres
  rw [hr1] at hres
  refine hT M s lv P dp c o a r1 f0 v hr1 hM hv.1 (fun N2 v2 p2 e2 f2 hB => ?_) (fun N2 Q2 c2 o2 a2 g s2 lv2 m2 e2 f2 hZ2 hQ2 hag hPQ2 hm2 => ?_)
  · subst e2
    exact hN N2 v2 p2 (Option.some.inj hres).symm f2 hB
  · subst e2
    have hqq : pz b n F 11 dp g s2 lv2 = some res := hres
    exact hL N2 s2 lv2 lv P Q2 dp c c2 o2 a2 m2 _ res hqq hZ2 hv.2 trivial trivial (fun y hy => by have := hQ2 y hy; omega) hPQ2 hm2 (fun N3 v3 p3 e3 f3 hB => hN N3 v3 p3 e3 (mr_t f2 f3) hB) (fun N3 Q3 c3 o3 a3 g3 s3 lv3 m3 e3 f3 hZ4 hQ3 hag3 hP4 hm3 => hY N3 Q3 c3 o3 a3 g3 s3 lv3 m3 e3 (mr_t f2 f3) hZ4 hQ3 (fun i hi => ⟨(hag3 i hi).1.trans (hag i hi).1, (hag3 i hi).2.trans (hag i hi).2⟩) hP4 hm3)
theorem m_loopSum (hT : KMr b n d h t tst QQ F 6 (pr6 b n) 6 3) (hL : KQr b n d h t tst QQ F 10 5 5 pcT dbT 3) : KQr b n d h t tst QQ (F + 1) 10 5 5 pcT dbT 3 := by
  intro M s lv lv0 P Q dp c0 c o a m f1 res hres hM hb hpc hdb hQ hPQ hm hN hY
  rw [pz_10] at hres
  by_cases ht : tkc b n s = 43 ∨ tkc b n s = 45
  · rw [if_pos ht] at hres
    obtain ⟨r1, hr1⟩ := pzB_e hres
    rw [hr1] at hres
    obtain ⟨q, hq, hbq, hzq, hq2⟩ : ∃ q, ((tkc b n s = 43 ∧ q = 20) ∨ (tkc b n s = 45 ∧ q = 21) ∨ (tkc b n s = 42 ∧ q = 22) ∨ (tkc b n s = 47 ∧ q = 23)) ∧ bd q = 5 ∧ z_sg q = tkc b n s ∧ (20 ≤ q ∧ q < 27) := by
      rcases ht with ht | ht
      · exact ⟨20, by omega, rfl, by rw [ht]; rfl, by decide⟩
      · exact ⟨21, by omega, rfl, by rw [ht]; rfl, by decide⟩
    refine hd_3 hM (n_bsA (d := d + 1) hM hq (fun y hy => by rw [hbq]; exact hQ y hy) (by rw [hbq]; exact hb)) (fun N v f hR => ?_)
    obtain ⟨e, hZ⟩ := hR
    subst e
    have w1 := hPQ.1.1
    refine hT N (tkx b n s) lv ((q, 0) :: P) dp _ _ _ r1 f1 1 hr1 hZ ⟨Or.inl rfl, by show bd q < 6; omega⟩ (fun N2 v2 p2 e2 f2 hB => ?_) (fun N2 Q2 c2 o2 a2 g s2 lv2 m2 e2 f2 hZ2 hQ2 hag hPQ2 hm2 => ?_)
    · subst e2
      exact hN N2 v2 p2 (Option.some.inj hres).symm (mr_t f f2) hB
    · subst e2
      have hqq : pz b n F 10 dp (dn_op (tkc b n s) f1 g) s2 lv2 = some res := hres
      have hZ3 : ZS b n s2 lv2 ((Q2 ++ [(q, 0)]) ++ P) dp c2 o2 a2 N2 := by
        rw [List.append_assoc]
        exact hZ2
      have hP3 := PQ_op (k := q) (hPQ.1.loc (fun i i1 i2 => hag i i2)) hPQ2 hq2
      rw [hzq] at hP3
      refine hL N2 s2 lv2 lv0 P (Q2 ++ [(q, 0)]) dp c0 c2 o2 a2 (m + m2) _ res hqq hZ3 hb trivial trivial (fun y hy => ?_) hP3 (by omega) (fun N3 v3 p3 e3 f3 hB => hN N3 v3 p3 e3 (mr_t f (mr_t f2 f3)) hB) (fun N3 Q3 c3 o3 a3 g3 s3 lv3 m3 e3 f3 hZ4 hQ3 hag3 hP4 hm3 => hY N3 Q3 c3 o3 a3 g3 s3 lv3 m3 e3 (mr_t f (mr_t f2 f3)) hZ4 hQ3 (fun i hi => ?_) hP4 hm3)
      · rcases List.mem_append.mp hy with hy | hy
        · have := hQ2 y hy
          omega
        · rw [List.mem_singleton.mp hy]
          show 5 ≤ bd q
          omega
      · have u1 := hag3 i hi
        have u2 := hag i (by omega)
        have u3 := hPQ.2 i hi
        exact ⟨u1.1.trans (u2.1.trans u3.1), u1.2.trans (u2.2.trans u3.2)⟩
  · rw [if_neg ht] at hres
    exact hY M Q c o a f1 s lv m (Option.some.inj hres).symm mr_0 hM hQ (fun i hi => ⟨rfl, rfl⟩) hPQ hm
theorem m_Sum (hT : KMr b n d h t tst QQ F 6 (pr6 b n) 6 3) (hL : KQr b n d h t tst QQ F 10 5 5 pcT dbT 3) : KMr b n d h t tst QQ (F + 1) 5 (pr5 b n) 5 3 := by
  intro M s lv P dp c o a res f0 v hres hM hv hN hY
  rw [pz_5] at hres
  obtain ⟨r1, hr1⟩ := pzB_e hres
  rw [hr1] at hres
  refine hT M s lv P dp c o a r1 f0 v hr1 hM ⟨hv.1, by have := hv.2; omega⟩ (fun N2 v2 p2 e2 f2 hB => ?_) (fun N2 Q2 c2 o2 a2 g s2 lv2 m2 e2 f2 hZ2 hQ2 hag hPQ2 hm2 => ?_)
  · subst e2
    exact hN N2 v2 p2 (Option.some.inj hres).symm f2 hB
  · subst e2
    have hqq : pz b n F 10 dp g s2 lv2 = some res := hres
    exact hL N2 s2 lv2 lv P Q2 dp c c2 o2 a2 m2 _ res hqq hZ2 hv.2 trivial trivial (fun y hy => by have := hQ2 y hy; omega) hPQ2 hm2 (fun N3 v3 p3 e3 f3 hB => hN N3 v3 p3 e3 (mr_t f2 f3) hB) (fun N3 Q3 c3 o3 a3 g3 s3 lv3 m3 e3 f3 hZ4 hQ3 hag3 hP4 hm3 => hY N3 Q3 c3 o3 a3 g3 s3 lv3 m3 e3 (mr_t f2 f3) hZ4 hQ3 (fun i hi => ⟨(hag3 i hi).1.trans (hag i hi).1, (hag3 i hi).2.trans (hag i hi).2⟩) hP4 hm3)
theorem m_loopBoth (hT : KMr b n d h t tst QQ F 2 (pr2 tst) 3 2) (hL : KQr b n d h t tst QQ F 9 2 2 (cxt tst) dbT 2) : KQr b n d h t tst QQ (F + 1) 9 2 2 (cxt tst) dbT 2 := by
  intro M s lv lv0 P Q dp c0 c o a m f1 res hres hM hb hpc hdb hQ hPQ hm hN hY
  rw [pz_9] at hres
  by_cases ht : tkc b n s = 275
  · rw [if_pos ht] at hres
    obtain ⟨r1, hr1⟩ := pzB_e hres
    rw [hr1] at hres
    refine hd_2 hM (n_btA (d := d + 1) (q := 28) (le := 2) hM (by omega) (tok_2 hM.by hM.sn (by omega)) hQ hb) (fun N v f hR => ?_)
    obtain ⟨e, hZ⟩ := hR
    subst e
    have w1 := hPQ.1.1
    refine hT N (tkx b n s) lv ((28, (sq Q o a c).2.2) :: P) dp _ _ _ r1 f1 0 hr1 hZ ⟨rfl, (by decide : bd 28 < 4), hpc⟩ (fun N2 v2 p2 e2 f2 hB => ?_) (fun N2 Q2 c2 o2 a2 g s2 lv2 m2 e2 f2 hZ2 hQ2 hag hPQ2 hm2 => ?_)
    · subst e2
      exact hN N2 v2 p2 (Option.some.inj hres).symm (mr_t f f2) hB
    · subst e2
      have hqq : pz b n F 9 dp (dn_and f1 g) s2 lv2 = some res := hres
      have hZ3 : ZS b n s2 lv2 ((Q2 ++ [(28, (sq Q o a c).2.2)]) ++ P) dp c2 o2 a2 N2 := by
        rw [List.append_assoc]
        exact hZ2
      have ag2 : ∀ i, i < (sq Q o a c).2.2 → o2 i = (sq Q o a c).1 i ∧ a2 i = (sq Q o a c).2.1 i := fun i hi => by
        have := hag i (by omega)
        exact ⟨this.1.trans (if_neg (by omega)), this.2.trans (if_neg (by omega))⟩
      have hP3 := PQ_and (hPQ.1.loc (fun i i1 i2 => ag2 i i2)) ((hag _ (Nat.lt_succ_self _)).1.trans (if_pos rfl)) hPQ2
      refine hL N2 s2 lv2 lv0 P (Q2 ++ [(28, (sq Q o a c).2.2)]) dp c0 c2 o2 a2 (m + m2) _ res hqq hZ3 hb hpc trivial (fun y hy => ?_) hP3 (by omega) (fun N3 v3 p3 e3 f3 hB => hN N3 v3 p3 e3 (mr_t f (mr_t f2 f3)) hB) (fun N3 Q3 c3 o3 a3 g3 s3 lv3 m3 e3 f3 hZ4 hQ3 hag3 hP4 hm3 => hY N3 Q3 c3 o3 a3 g3 s3 lv3 m3 e3 (mr_t f (mr_t f2 f3)) hZ4 hQ3 (fun i hi => ?_) hP4 hm3)
      · rcases List.mem_append.mp hy with hy | hy
        · have := hQ2 y hy
          omega
        · rw [List.mem_singleton.mp hy]
          exact (by decide : 2 ≤ bd 28)
      · have u1 := hag3 i hi
        have u2 := ag2 i (by omega)
        have u3 := hPQ.2 i hi
        exact ⟨u1.1.trans (u2.1.trans u3.1), u1.2.trans (u2.2.trans u3.2)⟩
  · rw [if_neg ht] at hres
    exact hY M Q c o a f1 s lv m (Option.some.inj hres).symm mr_0 hM hQ (fun i hi => ⟨rfl, rfl⟩) hPQ hm
theorem m_Both (hT : KMr b n d h t tst QQ F 2 (pr2 tst) 3 2) (hL : KQr b n d h t tst QQ F 9 2 2 (cxt tst) dbT 2) : KMr b n d h t tst QQ (F + 1) 1 (pr1 tst) 2 2 := by
  intro M s lv P dp c o a res f0 v hres hM hv hN hY
  rw [pz_1] at hres
  obtain ⟨r1, hr1⟩ := pzB_e hres
  rw [hr1] at hres
  have hv1 := hv.2.1
  refine hT M s lv P dp c o a r1 f0 v hr1 hM ⟨hv.1, by omega, hv.2.2⟩ (fun N2 v2 p2 e2 f2 hB => ?_) (fun N2 Q2 c2 o2 a2 g s2 lv2 m2 e2 f2 hZ2 hQ2 hag hPQ2 hm2 => ?_)
  · subst e2
    exact hN N2 v2 p2 (Option.some.inj hres).symm f2 hB
  · subst e2
    have hqq : pz b n F 9 dp g s2 lv2 = some res := hres
    exact hL N2 s2 lv2 lv P Q2 dp c c2 o2 a2 m2 _ res hqq hZ2 hv1 hv.2.2 trivial (fun y hy => by have := hQ2 y hy; omega) hPQ2 hm2 (fun N3 v3 p3 e3 f3 hB => hN N3 v3 p3 e3 (mr_t f2 f3) hB) (fun N3 Q3 c3 o3 a3 g3 s3 lv3 m3 e3 f3 hZ4 hQ3 hag3 hP4 hm3 => hY N3 Q3 c3 o3 a3 g3 s3 lv3 m3 e3 (mr_t f2 f3) hZ4 hQ3 (fun i hi => ⟨(hag3 i hi).1.trans (hag i hi).1, (hag3 i hi).2.trans (hag i hi).2⟩) hP4 hm3)
theorem m_loopTest (hT : KMr b n d h t tst QQ F 1 (pr1 tst) 2 2) (hL : KQr b n d h t tst QQ F 8 1 1 (cxt tst) dn_b 2) : KQr b n d h t tst QQ (F + 1) 8 1 1 (cxt tst) dn_b 2 := by
  intro M s lv lv0 P Q dp c0 c o a m f1 res hres hM hb hpc hdb hQ hPQ hm hN hY
  rw [pz_8] at hres
  by_cases ht : tkc b n s = 274
  · rw [if_pos ht] at hres
    obtain ⟨r1, hr1⟩ := pzB_e hres
    rw [hr1] at hres
    refine hd_2 hM (n_btA (d := d + 1) (q := 29) (le := 1) hM (by omega) (tok_2 hM.by hM.sn (by omega)) hQ hb) (fun N v f hR => ?_)
    obtain ⟨e, hZ⟩ := hR
    subst e
    have w1 := hPQ.1.1
    refine hT N (tkx b n s) lv ((29, (sq Q o a c).2.2) :: P) dp _ _ _ r1 f1 0 hr1 hZ ⟨rfl, (by decide : bd 29 < 2), hpc⟩ (fun N2 v2 p2 e2 f2 hB => ?_) (fun N2 Q2 c2 o2 a2 g s2 lv2 m2 e2 f2 hZ2 hQ2 hag hPQ2 hm2 => ?_)
    · subst e2
      exact hN N2 v2 p2 (Option.some.inj hres).symm (mr_t f f2) hB
    · subst e2
      have hqq : pz b n F 8 dp (dn_or f1 g) s2 lv2 = some res := hres
      have hZ3 : ZS b n s2 lv2 ((Q2 ++ [(29, (sq Q o a c).2.2)]) ++ P) dp c2 o2 a2 N2 := by
        rw [List.append_assoc]
        exact hZ2
      have ag2 : ∀ i, i < (sq Q o a c).2.2 → o2 i = (sq Q o a c).1 i ∧ a2 i = (sq Q o a c).2.1 i := fun i hi => by
        have := hag i (by omega)
        exact ⟨this.1.trans (if_neg (by omega)), this.2.trans (if_neg (by omega))⟩
      have hP3 := PQ_or hdb (hPQ.1.loc (fun i i1 i2 => ag2 i i2)) ((hag _ (Nat.lt_succ_self _)).1.trans (if_pos rfl)) hPQ2
      refine hL N2 s2 lv2 lv0 P (Q2 ++ [(29, (sq Q o a c).2.2)]) dp c0 c2 o2 a2 (m + m2) _ res hqq hZ3 hb hpc (db_or hdb ((pz_bl _ _ _ _ _ _ _ hr1).1 (by omega))) (fun y hy => ?_) hP3 (by omega) (fun N3 v3 p3 e3 f3 hB => hN N3 v3 p3 e3 (mr_t f (mr_t f2 f3)) hB) (fun N3 Q3 c3 o3 a3 g3 s3 lv3 m3 e3 f3 hZ4 hQ3 hag3 hP4 hm3 => hY N3 Q3 c3 o3 a3 g3 s3 lv3 m3 e3 (mr_t f (mr_t f2 f3)) hZ4 hQ3 (fun i hi => ?_) hP4 hm3)
      · rcases List.mem_append.mp hy with hy | hy
        · have := hQ2 y hy
          omega
        · rw [List.mem_singleton.mp hy]
          exact (by decide : 1 ≤ bd 29)
      · have u1 := hag3 i hi
        have u2 := ag2 i (by omega)
        have u3 := hPQ.2 i hi
        exact ⟨u1.1.trans (u2.1.trans u3.1), u1.2.trans (u2.2.trans u3.2)⟩
  · rw [if_neg ht] at hres
    exact hY M Q c o a f1 s lv m (Option.some.inj hres).symm mr_0 hM hQ (fun i hi => ⟨rfl, rfl⟩) hPQ hm
theorem m_Test (hT : KMr b n d h t tst QQ F 1 (pr1 tst) 2 2) (hL : KQr b n d h t tst QQ F 8 1 1 (cxt tst) dn_b 2) : KMr b n d h t tst QQ (F + 1) 0 (pr0 tst) 1 2 := by
  intro M s lv P dp c o a res f0 v hres hM hv hN hY
  rw [pz_0] at hres
  obtain ⟨r1, hr1⟩ := pzB_e hres
  rw [hr1] at hres
  have hv1 := hv.2.1
  refine hT M s lv P dp c o a r1 f0 v hr1 hM ⟨hv.1, by omega, hv.2.2⟩ (fun N2 v2 p2 e2 f2 hB => ?_) (fun N2 Q2 c2 o2 a2 g s2 lv2 m2 e2 f2 hZ2 hQ2 hag hPQ2 hm2 => ?_)
  · subst e2
    exact hN N2 v2 p2 (Option.some.inj hres).symm f2 hB
  · subst e2
    have hqq : pz b n F 8 dp g s2 lv2 = some res := hres
    exact hL N2 s2 lv2 lv P Q2 dp c c2 o2 a2 m2 _ res hqq hZ2 hv1 hv.2.2 ((pz_bl _ _ _ _ _ _ _ hr1).1 (by omega)) (fun y hy => by have := hQ2 y hy; omega) hPQ2 hm2 (fun N3 v3 p3 e3 f3 hB => hN N3 v3 p3 e3 (mr_t f2 f3) hB) (fun N3 Q3 c3 o3 a3 g3 s3 lv3 m3 e3 f3 hZ4 hQ3 hag3 hP4 hm3 => hY N3 Q3 c3 o3 a3 g3 s3 lv3 m3 e3 (mr_t f2 f3) hZ4 hQ3 (fun i hi => ⟨(hag3 i hi).1.trans (hag i hi).1, (hag3 i hi).2.trans (hag i hi).2⟩) hP4 hm3)
theorem isc_app : ∀ (Q : pl_T), (∀ x, x ∈ Q → 5 ≤ bd x.1) → isc (Q ++ P) = isc P
  | [], _ => rfl
  | x :: r, hq => by
    have h1 := hq x List.mem_cons_self
    have h2 : x.1 < 24 := by
      unfold bd at h1
      split at h1
      · omega
      split at h1
      · omega
      split at h1
      · omega
      split at h1
      · omega
      split at h1
      · omega
      omega
    show (if x.1 < 24 then isc (r ++ P) else decide (x.1 < 27)) = isc P
    rw [if_pos h2, isc_app r (fun y hy => hq y (List.mem_cons_of_mem _ hy))]
theorem isc_f (hb : bt P < 4) : isc P = false := by
  cases P with
  | nil => rfl
  | cons x r =>
    have hb : bd x.1 < 4 := hb
    have h2 : 27 ≤ x.1 := by
      unfold bd at hb
      split at hb
      · omega
      split at hb
      · omega
      split at hb
      · omega
      split at hb
      · omega
      split at hb
      · omega
      split at hb <;> omega
    show (if x.1 < 24 then isc r else decide (x.1 < 27)) = false
    rw [if_neg (by omega)]
    exact decide_eq_false (by omega)
theorem m_cmp (hS : KMr b n d h t tst QQ F 5 (pr5 b n) 5 3) : KMr b n d h t tst QQ (F + 1) 4 (pr4 b n tst) 4 2 := by
  intro M s lv P dp c o a res f0 v hres hM hv hN hY
  obtain ⟨hv1, hv2, hv3⟩ := hv
  rw [pz_4] at hres
  obtain ⟨r1, hr1⟩ := pzB_e hres
  rw [hr1] at hres
  refine hS M s lv P dp c o a r1 f0 v hr1 hM ⟨hv1, by omega⟩ (fun N2 v2 p2 e2 f2 hB => ?_) (fun N2 Q2 c2 o2 a2 g s2 lv2 m2 e2 f2 hZ2 hQ2 hag hPQ2 hm2 => ?_)
  · subst e2
    exact hN N2 v2 p2 (Option.some.inj hres).symm f2 hB
  subst e2
  have hq : (if tkc b n s2 = 60 ∨ tkc b n s2 = 62 ∨ tkc b n s2 = 61 then pzB (pz b n F 5 dp f0 (tkx b n s2) lv2) (fun g2 s2' lv2' => some (.inl (dn_op (tkc b n s2) g g2, s2', lv2'))) else some (.inr (tkp b n s2))) = some res := hres
  have htl : nar (tkc b n s2) := pz_tl _ _ _ _ _ _ _ hr1
  have hib : ib (Q2 ++ P) = ib P := ib_app Q2 (fun y hy => by have := hQ2 y hy; omega)
  refine hd_3 hZ2 (n_bsC (d := d + 1) hZ2 htl (by rw [hib]; exact hv3.1) (by rw [hib]; exact hv3.2) (by rw [isc_app Q2 hQ2]; exact isc_f hv2) hQ2 (by omega)) (fun N3 v3 f3 hR3 => ?_)
  by_cases hc : tkc b n s2 = 60 ∨ tkc b n s2 = 62 ∨ tkc b n s2 = 61
  · rw [if_pos hc] at hq hR3
    obtain ⟨e3, hZ3⟩ := hR3
    subst e3
    obtain ⟨hk1, hk2, hk3⟩ : bd (cmq (tkc b n s2)) = 4 ∧ z_sg (cmq (tkc b n s2)) = tkc b n s2 ∧ (20 ≤ cmq (tkc b n s2) ∧ cmq (tkc b n s2) < 27) := by
      rcases hc with z | z | z <;> rw [z] <;> exact ⟨rfl, rfl, by decide⟩
    generalize cmq (tkc b n s2) = q at hZ3 hk1 hk2 hk3
    have w1 := hPQ2.1.1
    obtain ⟨r2, hr2⟩ := pzB_e hq
    rw [hr2] at hq
    refine hS N3 (tkx b n s2) lv2 ((q, 0) :: P) dp _ _ _ r2 f0 1 hr2 hZ3 ⟨Or.inl rfl, by show bd q < 5; omega⟩ (fun N4 v4 p4 e4 f4 hB => ?_) (fun N4 Q4 c4 o4 a4 g4 s4 lv4 m4 e4 f4 hZ4 hQ4 hag4 hPQ4 hm4 => ?_)
    · subst e4
      exact hN N4 v4 p4 (Option.some.inj hq).symm (mr_t f2 (mr_t f3 f4)) hB
    subst e4
    have htl4 : nar (tkc b n s4) := pz_tl _ _ _ _ _ _ _ hr2
    have hib4 : ib (Q4 ++ (q, 0) :: P) = ib P := by
      rw [ib_app Q4 (fun y hy => by have := hQ4 y hy; omega)]
      show (if 30 ≤ q then nI q else ib P) = ib P
      rw [if_neg (by omega)]
    have hisc : isc (Q4 ++ (q, 0) :: P) = true := by
      rw [isc_app Q4 hQ4]
      show (if q < 24 then isc P else decide (q < 27)) = true
      have h24 : 24 ≤ q := by
        unfold bd at hk1
        split at hk1
        · omega
        split at hk1
        · omega
        split at hk1
        · omega
        split at hk1
        · omega
        split at hk1
        · omega
        split at hk1 <;> omega
      rw [if_neg (by omega)]
      exact decide_eq_true hk3.2
    have hP5 := PQ_op (k := q) (hPQ2.1.loc (fun i i1 i2 => hag4 i i2)) hPQ4 hk3
    rw [hk2] at hP5
    refine hd_3 hZ4 (n_bsT (d := d + 1) hZ4 htl4 (by rw [hib4]; exact hv3.1) (by rw [hib4]; exact hv3.2) hisc) (fun N5 v5 f5 hR5 => ?_)
    obtain ⟨e5, hZ5⟩ := hR5
    subst e5
    refine hY N5 (Q4 ++ [(q, 0)]) c4 o4 a4 _ s4 lv4 (m2 + m4) (Option.some.inj hq).symm (mr_t f2 (mr_t f3 (mr_t f4 f5))) (by rw [List.append_assoc]; exact hZ5) (fun y hy => ?_) (fun i hi => ?_) hP5 (by omega)
    · rcases List.mem_append.mp hy with hy | hy
      · have := hQ4 y hy
        omega
      · rw [List.mem_singleton.mp hy]
        show 4 ≤ bd q
        omega
    · have u1 := hag4 i (by omega)
      have u2 := hPQ2.2 i hi
      have u3 := hag i hi
      exact ⟨u1.1.trans (u2.1.trans u3.1), u1.2.trans (u2.2.trans u3.2)⟩
  · rw [if_neg hc] at hq hR3
    exact hN N3 v3 _ (Option.some.inj hq).symm (mr_t f2 f3) hR3
theorem m_plain (h2 : KMr b n d h t tst QQ F 2 (pr2 tst) 3 2) (h0 : KMr b n d h t tst QQ F 0 (pr0 tst) 1 2) (h4 : KMr b n d h t tst QQ F 4 (pr4 b n tst) 4 2) : KMr b n d h t tst QQ (F + 1) 2 (pr2 tst) 3 2 := by
  intro M s lv P dp c o a res f0 v hres hM hv hN hY
  obtain ⟨hv1, hv2, hv3⟩ := hv
  subst hv1
  rw [pz_2] at hres
  by_cases hn : tkc b n s = 276
  · rw [if_pos hn] at hres
    refine hd_0 hM (fun N v f hP => ?_)
    unfold PPq at hP
    rw [if_pos hn] at hP
    obtain ⟨e, hZ⟩ := hP
    subst e
    obtain ⟨r1, hr1⟩ := pzB_e hres
    rw [hr1] at hres
    refine h2 N (tkx b n s) lv ((27, 0) :: P) dp c o a r1 f0 0 hr1 hZ ⟨rfl, (by decide : bd 27 < 4), hv3⟩ (fun N2 v2 p2 e2 f2 hB => ?_) (fun N2 Q2 c2 o2 a2 g s2 lv2 m2 e2 f2 hZ2 hQ2 hag hPQ2 hm2 => ?_)
    · subst e2
      exact hN N2 v2 p2 (Option.some.inj hres).symm (mr_t f f2) hB
    · subst e2
      refine hY N2 (Q2 ++ [(27, 0)]) c2 o2 a2 _ s2 lv2 m2 (Option.some.inj hres).symm (mr_t f f2) (by rw [List.append_assoc]; exact hZ2) (fun y hy => ?_) hag (PQ_not hPQ2) hm2
      rcases List.mem_append.mp hy with hy | hy
      · exact hQ2 y hy
      · rw [List.mem_singleton.mp hy]
        exact (by decide : 3 ≤ bd 27)
  rw [if_neg hn] at hres
  by_cases h40 : tkc b n s = 40
  · rw [if_pos h40] at hres
    refine hd_0 hM (fun N v f hP => ?_)
    unfold PPq at hP
    rw [if_neg hn, if_pos h40] at hP
    by_cases h8 : 8 ≤ dp
    · rw [if_pos h8] at hres hP
      exact hN N v _ (Option.some.inj hres).symm f hP
    · rw [if_neg h8] at hres hP
      obtain ⟨e, hZ⟩ := hP
      subst e
      obtain ⟨r1, hr1⟩ := pzB_e hres
      rw [hr1] at hres
      refine h0 N (tkx b n s) lv ((30, 0) :: P) (dp + 1) c o a r1 f0 0 hr1 hZ ⟨rfl, (by decide : bd 30 < 1), (by decide : ¬ nI 30 = 31), fun z => absurd z (by decide : ¬ nI 30 = -1)⟩ (fun N2 v2 p2 e2 f2 hB => ?_) (fun N2 Q2 c2 o2 a2 g s2 lv2 m2 e2 f2 hZ2 hQ2 hag hPQ2 hm2 => ?_)
      · subst e2
        exact hN N2 v2 p2 (Option.some.inj hres).symm (mr_t f f2) hB
      · subst e2
        have hq : (if tkc b n s2 = 41 then some (.inl (g, tkx b n s2, lv2)) else some (.inr (tkp b n s2))) = some res := hres
        have htl : ¬ tkc b n s2 = 275 ∧ ¬ tkc b n s2 = 274 := pz_tl _ _ _ _ _ _ _ hr1
        refine hd_2 hZ2 (n_btB (d := d + 1) hZ2 htl.1 htl.2 hQ2) (fun N3 v3 f3 hR3 => ?_)
        by_cases h41 : tkc b n s2 = 41
        · rw [if_pos h41] at hq hR3
          obtain ⟨e3, hZ3⟩ := hR3
          subst e3
          exact hY N3 [] _ _ _ g _ lv2 m2 (Option.some.inj hq).symm (mr_t f (mr_t f2 f3)) hZ3 (fun y hy => by cases hy) (fun i hi => ⟨(hPQ2.2 i hi).1.trans (hag i hi).1, (hPQ2.2 i hi).2.trans (hag i hi).2⟩) (PQ_nil hPQ2.1) hm2
        · rw [if_neg h41] at hq hR3
          exact hN N3 v3 _ (Option.some.inj hq).symm (mr_t f (mr_t f2 f3)) hR3
  rw [if_neg h40] at hres
  by_cases hw : 263 ≤ tkc b n s ∧ tkc b n s < 268
  · rw [if_pos hw] at hres
    refine hd_0 hM (fun N v f hP => ?_)
    unfold PPq at hP
    rw [if_neg hn, if_neg h40, if_pos hw] at hP
    by_cases h5 : 50 ≤ lv
    · rw [if_pos h5] at hres hP
      exact hN N v _ (Option.some.inj hres).symm f hP
    · rw [if_neg h5] at hres hP
      obtain ⟨e, hZ⟩ := hP
      subst e
      refine hY N [] _ _ _ _ _ _ 1 (Option.some.inj hres).symm f hZ (fun y hy => by cases hy) (fun i hi => ⟨if_neg (by omega), if_neg (by omega)⟩) (PQ_nil (CM_word (i := tkc b n s - 256) ?_ (by omega))) (by omega)
      show (if c = c then tkc b n s - 256 + 5 else o c) = _
      rw [if_pos rfl, if_neg (by omega)]
  · rw [if_neg hw] at hres
    exact h4 M s lv P dp c o a res f0 0 hres hM ⟨Or.inr ⟨rfl, hn, h40, hw⟩, hv2, hv3⟩ hN (fun N Q c' o' a' f s' lv' m e f1 hZ hQ => hY N Q c' o' a' f s' lv' m e f1 hZ (fun y hy => by have := hQ y hy; omega))
def KAm (b : Nat → Nat) (n d : Nat) (h t : ms_S) (tst : Int32) (QQ : Option Value → ms_S → Prop) (F : Nat) : Prop := (KMr b n d h t tst QQ F 7 (pr7 b n) 7 3 ∧ KMr b n d h t tst QQ F 6 (pr6 b n) 6 3 ∧ KMr b n d h t tst QQ F 5 (pr5 b n) 5 3 ∧ KMr b n d h t tst QQ F 4 (pr4 b n tst) 4 2 ∧ KMr b n d h t tst QQ F 2 (pr2 tst) 3 2 ∧ KMr b n d h t tst QQ F 1 (pr1 tst) 2 2 ∧ KMr b n d h t tst QQ F 0 (pr0 tst) 1 2) ∧ KQr b n d h t tst QQ F 11 6 6 pcT dbT 3 ∧ KQr b n d h t tst QQ F 10 5 5 pcT dbT 3 ∧ KQr b n d h t tst QQ F 9 2 2 (cxt tst) dbT 2 ∧ KQr b n d h t tst QQ F 8 1 1 (cxt tst) dn_b 2
theorem KAm_all : ∀ F, KAm b n d h t tst QQ F := by
  intro F
  induction F with
  | zero =>
    have z : ∀ k PR ll v', KMr b n d h t tst QQ 0 k PR ll v' := by
      intro k PR ll v' M s lv P dp c o a res f0 v hres
      cases hres
    have zl : ∀ k ll rq PC DB v', KQr b n d h t tst QQ 0 k ll rq PC DB v' := by
      intro k ll rq PC DB v' M s lv lv0 P Q dp c0 c o a m f1 res hres
      cases hres
    exact ⟨⟨z _ _ _ _, z _ _ _ _, z _ _ _ _, z _ _ _ _, z _ _ _ _, z _ _ _ _, z _ _ _ _⟩, zl _ _ _ _ _ _, zl _ _ _ _ _ _, zl _ _ _ _ _ _, zl _ _ _ _ _ _⟩
  | succ F ih =>
    obtain ⟨⟨a7, a6, a5, a4, a2, a1, a0⟩, l11, l10, l9, l8⟩ := ih
    exact ⟨⟨m_part a5, m_Term a7 l11, m_Sum a6 l10, m_cmp a5, m_plain a2 a0 a4, m_Both a2 l9, m_Test a1 l8⟩, m_loopTerm a7 l11, m_loopSum a6 l10, m_loopBoth a2 l9, m_loopTest a1 l8⟩
end Cp2
