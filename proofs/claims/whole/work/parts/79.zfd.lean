/-! THE MODEL: what its laws tell; frames of its fields; written by wip/whole/mdl.py from zfd.txt -/
def md_fr (S : Nat → Bool) (M N : md_T) : Prop := ∀ k, S k = false → md_i N k = md_i M k ∧ md_l N k = md_l M k ∧ (∀ n, md_a N k n = md_a M k n) ∧ ∀ n, md_q N k n = md_q M k n
def zS (k : Nat) : Bool := decide (26 ≤ k ∧ k ≤ 29)
def zT (k : Nat) : Bool := decide (25 ≤ k ∧ k ≤ 29)
def gQ (S : Nat → Bool) (h : ms_S) (M : md_T) (t : ms_S) (v : Int32) (r : Option Value) (g' : ms_S) : Prop := ∃ N, md_fr S M N ∧ g' = ms_m h N t ∧ r = some (.int v)
def gN (S : Nat → Bool) (h : ms_S) (M : md_T) (t : ms_S) (P : md_T → Prop) (r : Option Value) (g' : ms_S) : Prop := ∃ N, md_fr S M N ∧ g' = ms_m h N t ∧ r = none ∧ P N
def z_is (o a : Nat → Nat) (s e : Nat) (f : dn_T) : Prop := ∀ env, ev_b env → match f env with
  | some v => ∃ l, z_ev o a env e s [] (some l) ∧ z_bot l = v
  | none => z_ev o a env e s [] none
def mt_k (r : Nat → Int32) (i n : Nat) (o a : Nat → Nat) (j : Nat) (c : cl_T) : Prop := r (946 + 898 * i + 2 + 8 * j) = nI c.1 ∧ c.1 < 5 ∧ ∃ s m e, s ≤ m ∧ m ≤ e ∧ e ≤ n ∧ r (946 + 898 * i + 2 + 8 * j + 3) = nI s ∧ r (946 + 898 * i + 2 + 8 * j + 4) = nI m ∧ r (946 + 898 * i + 2 + 8 * j + 5) = nI m ∧ r (946 + 898 * i + 2 + 8 * j + 6) = nI e ∧ z_is o a s m c.2.1 ∧ ((m = e ∧ c.2.2 = fun _ => some 1) ∨ (m < e ∧ z_is o a m e c.2.2))
def mt_t (r : Nat → Int32) (i : Nat) (cs : List cl_T) : Prop := r (946 + 898 * i + 1) = nI cs.length ∧ cs.length ≤ 12 ∧ ∃ n o a, mt_w r i n o a ∧ ∀ j c, cs[j]? = some c → mt_k r i n o a j c
def MT (r : Nat → Int32) (Ts : List (List cl_T)) : Prop := ∀ i cs, Ts[i]? = some cs → mt_t r i cs
section Zfd
variable {d i j n k s e stop x df : Nat} {h t : ms_S} {M N L : md_T} {S S' : Nat → Bool} {o a : Nat → Nat} {env : Nat → Int32} {Ts : List (List cl_T)} {cs : List cl_T} {c : cl_T}
theorem mr_0 : md_fr S M M := fun _ _ => ⟨rfl, rfl, fun _ => rfl, fun _ => rfl⟩
theorem mr_t (h : md_fr S M N) (k : md_fr S N L) : md_fr S M L := fun j hj => ⟨(k j hj).1.trans (h j hj).1, (k j hj).2.1.trans (h j hj).2.1, fun n => ((k j hj).2.2.1 n).trans ((h j hj).2.2.1 n), fun n => ((k j hj).2.2.2 n).trans ((h j hj).2.2.2 n)⟩
theorem mr_s (h : md_fr S M N) (k : ∀ c, S' c = false → S c = false) : md_fr S' M N := fun j hj => h j (k j hj)
theorem mr_i (h : md_fr S M N) {k : Nat} {y : Int32} (hk : S k = true) : md_fr S M (md_ui N k y) := by
  intro j hj
  have hn : j ≠ k := fun z => by rw [z, hk] at hj; cases hj
  refine ⟨?_, (h j hj).2⟩
  show (if j = k then y else N.1 j) = _
  rw [if_neg hn]
  exact (h j hj).1
theorem mr_l (h : md_fr S M N) {k : Nat} {y : Int64} (hk : S k = true) : md_fr S M (md_ul N k y) := by
  intro j hj
  have hn : j ≠ k := fun z => by rw [z, hk] at hj; cases hj
  refine ⟨(h j hj).1, ?_, (h j hj).2.2⟩
  show (if j = k then y else N.2.1 j) = _
  rw [if_neg hn]
  exact (h j hj).2.1
theorem mr_a (h : md_fr S M N) {k m : Nat} {y : Int32} (hk : S k = true) : md_fr S M (md_ua N k m y) := by
  intro j hj
  have hn : j ≠ k := fun z => by rw [z, hk] at hj; cases hj
  refine ⟨(h j hj).1, (h j hj).2.1, fun n => ?_, (h j hj).2.2.2⟩
  show (if j = k then upd (N.2.2.1 j) m y else N.2.2.1 j) n = _
  rw [if_neg hn]
  exact (h j hj).2.2.1 n
theorem mr_q (h : md_fr S M N) {k m : Nat} {y : Int64} (hk : S k = true) : md_fr S M (md_uq N k m y) := by
  intro j hj
  have hn : j ≠ k := fun z => by rw [z, hk] at hj; cases hj
  refine ⟨(h j hj).1, (h j hj).2.1, (h j hj).2.2.1, fun n => ?_⟩
  show (if j = k then vp_updL (N.2.2.2 j) m y else N.2.2.2 j) n = _
  rw [if_neg hn]
  exact (h j hj).2.2.2 n
theorem mr_sq (h : md_fr S M N) {k : Nat} {f : Nat → Int64} (hk : S k = true) : md_fr S M (md_sq N k f) := by
  intro j hj
  have hn : j ≠ k := fun z => by rw [z, hk] at hj; cases hj
  refine ⟨(h j hj).1, (h j hj).2.1, (h j hj).2.2.1, fun n => ?_⟩
  show (if j = k then f else N.2.2.2 j) n = _
  rw [if_neg hn]
  exact (h j hj).2.2.2 n
theorem mr_sa (h : md_fr S M N) {k : Nat} {f : Nat → Int32} (hk : S k = true) : md_fr S M (md_sa N k f) := by
  intro j hj
  have hn : j ≠ k := fun z => by rw [z, hk] at hj; cases hj
  refine ⟨(h j hj).1, (h j hj).2.1, fun n => ?_, (h j hj).2.2.2⟩
  show (if j = k then f else N.2.2.1 j) n = _
  rw [if_neg hn]
  exact (h j hj).2.2.1 n
theorem mr_a3 (h : md_fr S M N) (hk : S k = false) : md_a N k = md_a M k := funext fun n => (h k hk).2.2.1 n
theorem mr_q3 (h : md_fr S M N) (hk : S k = false) : md_q N k = md_q M k := funext fun n => (h k hk).2.2.2 n
theorem zM_0 : md_ui M 27 0 = zM M 0 (md_q M 26) := by
  unfold zM md_ui md_sq
  refine Prod.ext rfl (Prod.ext rfl (Prod.ext rfl ?_))
  funext y
  show M.2.2.2 y = if y = 26 then md_q M 26 else M.2.2.2 y
  by_cases hy : y = 26
  · rw [if_pos hy, hy]; rfl
  · rw [if_neg hy]
theorem md_l_at {k : Nat} {y : Int64} : md_l (md_ul M k y) k = y := by
  unfold md_l md_ul
  exact if_pos rfl
theorem n_rd {v : Int32} (hk : k < 18906) (hv : md_a N 3 k = v) {K : Int32 → Prop} (hK : K v) : ms_rI (ms_m h N t) (h.length + 2) 0 (nI k) K := by
  rw [mm_r3]
  refine ⟨ms_in hk (by decide), ?_⟩
  rw [ms_nc (by omega), hv]
  exact hK
theorem c9_reckonAll {res : Option (List Int64)} (ht : mt_w (md_a M 3) i n o a) (hs : stop ≤ n) (hi : i < 20) (he : ∀ j, j < 17 → md_q M 25 j = z_env env j) (hk : k < 2 ^ 31) (hr : z_ev o a env stop k [] res) : ms_H' (d + 2) 203 [.ref h.length, .int (nI i), .int (nI k), .int (nI stop)] (ms_m h M t) (z_R h M t res) := by
  refine mx_m (fun a b c => m_X9_reckonAll a b ⟨_, ms_m_0⟩ c) (fun r g' h => ?_) (b_X9_reckonAll_0 ?_)
  · obtain ⟨b, q, v, e, _⟩ := h
    rw [e]
    exact ⟨ms_m_l, ms_m_t⟩
  simp only [ms_oR_e, ms_oI_e, ms_oL_e, mm_f27, mm_p27]
  rw [zM_0]
  obtain ⟨F, hF⟩ := hr
  exact ⟨Or.inl trivial, c9_zloop ht hs hi he F k [] _ res hF hk (by decide) trivial⟩
theorem z_R_v {res : Option (List Int64)} {v : Int64} {r : Option Value} {g' : ms_S} (hz : z_R h M t res r g') : ∃ N, g' = ms_m h N t ∧ r = none ∧ md_fr zS M N ∧ match res with
  | none => md_i N 27 = 1
  | some l => md_i N 27 = 0 ∧ md_l N 28 = z_bot l := by
  obtain ⟨b, q, v, e1, e2, e3⟩ := hz
  refine ⟨_, e1, e2, mr_l (mr_i (mr_sq mr_0 rfl) rfl) rfl, ?_⟩
  cases res with
  | none => subst e3; exact zM_b (M := M) (q := q)
  | some l =>
    obtain ⟨e3, e4⟩ := e3
    subst e3
    refine ⟨zM_b (M := M) (q := q), ?_⟩
    rw [md_l_at, e4]
/-- reckonAll by what a piece answers -/
theorem c9_rk {f : dn_T} (ht : mt_w (md_a M 3) i n o a) (hs : stop ≤ n) (hi : i < 20) (hv : ev_b env) (he : ∀ j, j < 17 → md_q M 25 j = z_env env j) (hk : k < 2 ^ 31) (hr : z_is o a k stop f) : ms_H' (d + 2) 203 [.ref h.length, .int (nI i), .int (nI k), .int (nI stop)] (ms_m h M t) (fun r g' => ∃ N, g' = ms_m h N t ∧ r = none ∧ md_fr zS M N ∧ match f env with
  | none => md_i N 27 = 1
  | some v => md_i N 27 = 0 ∧ md_l N 28 = v) := by
  have hr := hr env hv
  cases hf : f env with
  | none =>
    rw [hf] at hr
    obtain ⟨r, g', hz, hc⟩ := c9_reckonAll (d := d) (h := h) (t := t) ht hs hi he hk hr
    exact ⟨r, g', z_R_v (v := 0) hz, hc⟩
  | some v =>
    rw [hf] at hr
    obtain ⟨l, hl, hb⟩ := hr
    obtain ⟨r, g', hz, hc⟩ := c9_reckonAll (d := d) (h := h) (t := t) ht hs hi he hk hl
    obtain ⟨N, n1, n2, n3, n4, n5⟩ := z_R_v (v := 0) hz
    exact ⟨r, g', ⟨N, n1, n2, n3, n4, by rw [n5, hb]⟩, hc⟩
def so_R (h : ms_S) (M : md_T) (t : ms_S) (x : Option Int64) (r : Option Value) (g' : ms_S) : Prop := ∃ N, g' = ms_m h N t ∧ md_fr zS M N ∧ r = some (.int (ms_bi x.isSome)) ∧ ∀ v, x = some v → md_l N 29 = v
theorem ms_p1L {m : Nat} : ∀ k : Nat, nI m + nI k = nI (m + k) := fun k => ms_p1 k
theorem c9_isSo (ht : mt_w (md_a M 3) i n o a) (hi : i < 20) (hj : j < 12) (hc : mt_k (md_a M 3) i n o a j c) (hv : ev_b env) (he : ∀ j, j < 17 → md_q M 25 j = z_env env j) : ms_H' (d + 3) 204 [.ref h.length, .int (nI i), .int (nI (946 + 898 * i + 2 + 8 * j))] (ms_m h M t) (so_R h M t (cl_holds c env)) := by
  refine mx_m (fun a b c => m_X9_isSo a b ⟨_, ms_m_0⟩ c) (fun r g' h => ?_) (b_X9_isSo_0 ?_)
  · obtain ⟨N, e, _⟩ := h
    rw [e]
    exact ⟨ms_m_l, ms_m_t⟩
  obtain ⟨c1, c2, s, m, e, h1, h2, h3, r3, r4, r5, r6, hsum, htest⟩ := hc
  have hn := ht.1
  generalize hK : 946 + 898 * i + 2 + 8 * j = K at *
  have hrd : ∀ (N : md_T) (w v : Nat) (P : Int32 → Prop), md_fr zS M N → w < 8 → md_a M 3 (K + w) = nI v → P (nI v) → ms_rI (ms_m h N t) (h.length + 2) 0 (nI (K + w)) P := by
    intro N w v P hf hw hv hP
    exact n_rd (by omega) (by rw [mr_a3 hf rfl, hv]) hP
  have k3 : nI K + 3 = nI (K + 3) := ms_p1 3
  have k4 : nI K + 4 = nI (K + 4) := ms_p1 4
  have k5 : nI K + 5 = nI (K + 5) := ms_p1 5
  have k6 : nI K + 6 = nI (K + 6) := ms_p1 6
  have hsumgo : ∀ N, md_fr zS M N → (∃ w, c.2.2 env = some w ∧ w ≠ 0) → ms_c0 (ms_Cl (d + 2) 203 [.ref h.length, .int (nI i), .int (nI s), .int (nI m)] (ms_m h N t)) fun g9 => ms_oL (ms_fldL g9 h.length 9 28) fun x10 => ms_wF g9 h.length 9 29 (.long x10) fun g11 => ms_oI (ms_fldI g11 h.length 9 27) fun x12 => if x12 = 0 then ((1 = (0 : Int32) ∨ True) ∧ so_R h M t (cl_holds c env) (some (.int 1)) g11) else ((True ∨ 0 = (1 : Int32)) ∧ so_R h M t (cl_holds c env) (some (.int 0)) g11) := by
    intro N hf hw
    obtain ⟨w, hw1, hw2⟩ := hw
    have ht2 : mt_w (md_a N 3) i n o a := by rw [mr_a3 hf rfl]; exact ht
    refine mx_c0 (c9_rk ht2 (by omega) hi hv (fun j hj => by rw [mr_q3 hf rfl]; exact he j hj) (by omega) hsum) (fun r g' hr => ?_)
    obtain ⟨L, e1, e2, hf2, hv⟩ := hr
    subst e1
    refine ⟨e2, ?_⟩
    simp only [ms_oR_e, ms_oI_e, ms_oL_e, mm_f28, mm_p28, mm_f29, mm_p29, mm_f27, mm_p27]
    have e27 : md_i (md_ul L 29 (md_l L 28)) 27 = md_i L 27 := rfl
    have hfr : md_fr zS M (md_ul L 29 (md_l L 28)) := mr_l (mr_t hf hf2) rfl
    have hh : cl_holds c env = c.2.1 env := by
      unfold cl_holds
      rw [hw1]
      simp only
      rw [if_neg hw2]
    rw [e27, hh]
    cases hs : c.2.1 env with
    | none =>
      rw [hs] at hv
      rw [hv]
      exact ms_no (by decide) ⟨Or.inl trivial, _, rfl, hfr, rfl, fun v z => by cases z⟩
    | some v =>
      rw [hs] at hv
      rw [hv.1]
      refine ms_yes rfl ⟨Or.inr trivial, _, rfl, hfr, rfl, fun v2 z => ?_⟩
      cases z
      rw [md_l_at]
      exact hv.2
  simp only [ms_oR_e, ms_oI_e, ms_oL_e, mm_f3, mm_w3, k3, k4, k5, k6]
  refine hrd M 5 m _ mr_0 (by decide) r5 ?_
  refine hrd M 6 e _ mr_0 (by decide) r6 ?_
  rcases htest with ⟨t1, t2⟩ | ⟨t1, t2⟩
  · refine ms_yes ((ms_nle (by omega) (by omega)).mpr (by omega)) ?_
    refine hrd M 3 s _ mr_0 (by decide) r3 ?_
    refine hrd M 4 m _ mr_0 (by decide) r4 ?_
    exact hsumgo M mr_0 ⟨1, by rw [t2], by decide⟩
  · refine ms_no (fun z => by rw [ms_nle (by omega) (by omega)] at z; omega) ?_
    refine hrd M 5 m _ mr_0 (by decide) r5 ?_
    refine hrd M 6 e _ mr_0 (by decide) r6 ?_
    refine mx_c0 (c9_rk ht h3 hi hv he (by omega) t2) (fun r g' hr => ?_)
    obtain ⟨L, e1, e2, hf2, hv⟩ := hr
    subst e1
    refine ⟨e2, ?_⟩
    simp only [ms_oR_e, ms_oI_e, ms_oL_e, mm_f28, mm_p28, mm_f27, mm_p27, mm_f3, mm_w3, k3, k4]
    cases hs : c.2.2 env with
    | none =>
      rw [hs] at hv
      rw [hv]
      have hh : cl_holds c env = none := by unfold cl_holds; rw [hs]
      rw [hh]
      exact ms_no (by decide) ⟨Or.inl trivial, _, rfl, hf2, rfl, fun v z => by cases z⟩
    | some v =>
      rw [hs] at hv
      rw [hv.1, hv.2]
      refine ms_yes rfl ?_
      by_cases hv0 : v = 0
      · have hh : cl_holds c env = none := by unfold cl_holds; rw [hs]; simp only; rw [if_pos hv0]
        rw [hh]
        exact ms_yes ((lg_cmp_eq _ _).mpr hv0) ⟨Or.inl trivial, _, rfl, hf2, rfl, fun v z => by cases z⟩
      · refine ms_no (mt (lg_cmp_eq _ _).mp hv0) ?_
        refine hrd L 3 s _ hf2 (by decide) r3 ?_
        refine hrd L 4 m _ hf2 (by decide) r4 ?_
        exact hsumgo L hf2 ⟨v, hs, hv0⟩
/-- what find has at hand -/
def fd_v (x df : Nat) (o : Option Int64) : Int64 := match o with
  | none => (nI df).toInt64
  | some v => if x = 4 then 1 else v
def fd_r (x df : Nat) (o : Option Int64) : Nat := match o with
  | none => df
  | some v => if x = 4 then 1 else cl1000 v
theorem fd_clamp {o : Option Int64} (hd : df ≤ 1000) {Q : Option Value → ms_S → Prop} {g : ms_S} (hQ : Q (some (.int (nI (fd_r x df o)))) g) : if 0 ≤ lg_cmp (fd_v x df o) 0 then (if lg_cmp (fd_v x df o) 1000 ≤ 0 then Q (some (.int (Int64.toInt32 (fd_v x df o)))) g else Q (some (.int 1000)) g) else Q (some (.int 0)) g := by
  have key : ∀ v : Int64, Q (some (.int (nI (cl1000 v)))) g → if 0 ≤ lg_cmp v 0 then (if lg_cmp v 1000 ≤ 0 then Q (some (.int (Int64.toInt32 v))) g else Q (some (.int 1000)) g) else Q (some (.int 0)) g := by
    intro v hq
    have e := cl1000_c v
    by_cases h1 : 1000 < v
    · simp only [if_pos h1] at e
      rw [← e] at hq
      refine ms_yes ((lg_cmp_ge _ _).mpr ?_) (ms_no (fun z => absurd ((lg_cmp_le _ _).mp z) (Int64.not_le.mpr h1)) hq)
      exact Int64.le_of_lt (Int64.lt_trans (by decide) h1)
    · simp only [if_neg h1] at e
      by_cases h2 : v < 0
      · simp only [if_pos h2] at e
        rw [← e] at hq
        exact ms_no (fun z => absurd ((lg_cmp_ge _ _).mp z) (Int64.not_le.mpr h2)) hq
      · simp only [if_neg h2] at e
        rw [← e] at hq
        exact ms_yes ((lg_cmp_ge _ _).mpr (Int64.not_lt.mp h2)) (ms_yes ((lg_cmp_le _ _).mpr (Int64.not_lt.mp h1)) hq)
  have hdf : ∀ m : Nat, m ≤ 1000 → cl1000 (nI m).toInt64 = m := by
    intro m hm
    have e := cl1000_c (nI m).toInt64
    have i0 : (nI m).toInt64.toInt = m := by rw [Int32.toInt_toInt64, nI_toInt (by omega)]
    have h1 : ¬ 1000 < (nI m).toInt64 := by
      rw [Int64.lt_iff_toInt_lt, i0, show (1000 : Int64).toInt = 1000 by decide]
      omega
    have h2 : ¬ (nI m).toInt64 < 0 := by
      rw [Int64.lt_iff_toInt_lt, i0, show (0 : Int64).toInt = 0 by decide]
      omega
    unfold cl1000
    rw [if_neg h1, if_neg h2, i0]
    rfl
  cases o with
  | none =>
    refine key _ ?_
    show Q (some (.int (nI (cl1000 (nI df).toInt64)))) g
    rw [hdf df hd]
    exact hQ
  | some v =>
    by_cases hx : x = 4
    · have e1 : fd_v x df (some v) = 1 := if_pos hx
      have e2 : fd_r x df (some v) = 1 := if_pos hx
      rw [e1]
      rw [e2] at hQ
      exact key 1 hQ
    · have e1 : fd_v x df (some v) = v := if_neg hx
      have e2 : fd_r x df (some v) = cl1000 v := if_neg hx
      rw [e1]
      rw [e2] at hQ
      exact key v hQ
theorem ix_t1 : (946 + 898 * nI i) + 1 = nI (946 + 898 * i + 1) := by
  show (nI 946 + nI 898 * nI i) + nI 1 = _
  rw [nI_mul, ms_p1, ms_p1]
theorem ix_t2 : ((946 + 898 * nI i) + 2) + 8 * nI j = nI (946 + 898 * i + 2 + 8 * j) := by
  show ((nI 946 + nI 898 * nI i) + nI 2) + nI 8 * nI j = _
  rw [nI_mul, nI_mul, ms_p1, ms_p1, ms_p1]
theorem c9_find (hT : MT (md_a M 3) Ts) (hl : Ts.length ≤ 20) (h3 : md_a M 3 3 = nI Ts.length) (hv : ev_b env) (he : ∀ j, j < 17 → md_q M 25 j = z_env env j) (hx : x < 5) (hd : df ≤ 1000) : ms_H' (d + 4) 205 [.ref h.length, .int (nI x), .int (nI df)] (ms_m h M t) (gQ zS h M t (nI (fd_r x df (tx_last x env Ts)))) := by
  refine mx_m (fun a b c => m_X9_find a b ⟨_, ms_m_0⟩ c) (fun r g' h => ?_) (b_X9_find_0 ?_)
  · obtain ⟨N, _, e, _⟩ := h
    rw [e]
    exact ⟨ms_m_l, ms_m_t⟩
  have outer : ∀ r i N, i + r = Ts.length → md_fr zS M N → ms_V cd_X9_find none 1 (ms_Cl (d + 3)) (gQ zS h M t (nI (fd_r x df (tx_last x env Ts)))) 6 [(0, .ref h.length), (1, .int (nI x)), (3, .long (fd_v x df (tx_last x env (Ts.take i)))), (5, .int (nI i))] [] (ms_m h N t) := by
    intro r
    induction r with
    | zero =>
      intro i N hi hf
      refine b_X9_find_6 ?_
      simp only [ms_oR_e, ms_oI_e, ms_oL_e, mm_f3, mm_r3, mm_w3]
      refine ⟨(by unfold vp_in; decide), ?_⟩
      rw [show Int32.toNatClampNeg 3 = 3 from rfl, mr_a3 hf rfl, h3]
      refine ms_yes ((ms_nle (by omega) (by omega)).mpr (by omega)) ?_
      rw [show i = Ts.length by omega, List.take_length]
      exact fd_clamp hd ⟨N, hf, rfl, rfl⟩
    | succ r ih =>
      intro i N hi hf
      refine b_X9_find_6 ?_
      simp only [ms_oR_e, ms_oI_e, ms_oL_e, mm_f3, mm_r3, mm_w3]
      refine ⟨(by unfold vp_in; decide), ?_⟩
      rw [show Int32.toNatClampNeg 3 = 3 from rfl, mr_a3 hf rfl, h3]
      refine ms_no (fun z => by rw [ms_nle (by omega) (by omega)] at z; omega) ?_
      have hcs : Ts[i]? = some (Ts[i]'(by omega)) := List.getElem?_eq_getElem _
      generalize Ts[i]'(by omega) = cs at hcs
      obtain ⟨q1, q2, n, o, a, q3, q4⟩ := hT i cs hcs
      have inner : ∀ r2 j N, j + r2 = cs.length → md_fr zS M N → ms_V cd_X9_find none 1 (ms_Cl (d + 3)) (gQ zS h M t (nI (fd_r x df (tx_last x env Ts)))) 20 [(0, .ref h.length), (1, .int (nI x)), (3, .long (fd_v x df (cl_last x env (tx_last x env (Ts.take i)) (cs.take j)))), (5, .int (nI i)), (6, .int (nI j))] [] (ms_m h N t) := by
        intro r2
        induction r2 with
        | zero =>
          intro j N hj hf
          refine b_X9_find_20 ?_
          simp only [ms_oR_e, ms_oI_e, ms_oL_e, mm_f3, mm_r3, mm_w3]
          refine ms_c1_i c9_textAt ?_
          rw [ix_t1]
          simp only [ms_oR_e, ms_oI_e, ms_oL_e, mm_f3, mm_r3, mm_w3]
          refine ⟨ms_in (by omega) (by decide), ?_⟩
          rw [ms_nc (by omega), mr_a3 hf rfl, q1]
          refine ms_yes ((ms_nle (by omega) (by omega)).mpr (by omega)) ?_
          have k := ih (i + 1) N (by omega) hf
          rw [take_1 hcs, tx_last_app] at k
          rw [show j = cs.length by omega, List.take_length, show nI i + 1 = nI (i + 1) from ms_p1 1]
          exact k
        | succ r2 ih2 =>
          intro j N hj hf
          refine b_X9_find_20 ?_
          simp only [ms_oR_e, ms_oI_e, ms_oL_e, mm_f3, mm_r3, mm_w3]
          refine ms_c1_i c9_textAt ?_
          rw [ix_t1]
          simp only [ms_oR_e, ms_oI_e, ms_oL_e, mm_f3, mm_r3, mm_w3]
          refine ⟨ms_in (by omega) (by decide), ?_⟩
          rw [ms_nc (by omega), mr_a3 hf rfl, q1]
          refine ms_no (fun z => by rw [ms_nle (by omega) (by omega)] at z; omega) ?_
          refine ms_c1_i c9_textAt ?_
          rw [ix_t2]
          simp only [ms_oR_e, ms_oI_e, ms_oL_e, mm_f3, mm_r3, mm_w3]
          refine ⟨ms_in (by omega) (by decide), ?_⟩
          have hc : cs[j]? = some (cs[j]'(by omega)) := List.getElem?_eq_getElem _
          generalize cs[j]'(by omega) = c at hc
          have hk := q4 j c hc
          rw [ms_nc (by omega), mr_a3 hf rfl, hk.1, show nI j + 1 = nI (j + 1) from ms_p1 1]
          have e9 : ∀ acc, cl_last x env acc (cs.take (j + 1)) = cl_st x env (cl_last x env acc (cs.take j)) c := by
            intro acc
            rw [take_1 hc, cl_last_app]
          by_cases hh : c.1 = x
          · refine ms_yes (by rw [hh]) ?_
            have ht2 : mt_w (md_a N 3) i n o a := by rw [mr_a3 hf rfl]; exact q3
            have hk2 : mt_k (md_a N 3) i n o a j c := by rw [mr_a3 hf rfl]; exact hk
            refine mx_c1 (c9_isSo (env := env) ht2 (by omega) (by omega) hk2 hv (fun j hj => by rw [mr_q3 hf rfl]; exact he j hj)) (fun r g' hr => ?_)
            obtain ⟨L, e1, hf2, e2, e3⟩ := hr
            subst e1
            refine ⟨_, e2, ?_⟩
            have k := ih2 (j + 1) L (by omega) (mr_t hf hf2)
            rw [e9] at k
            unfold cl_st at k
            rw [if_pos hh] at k
            cases hv : cl_holds c env with
            | none =>
              rw [hv] at k
              exact ms_yes rfl k
            | some v =>
              rw [hv] at k
              refine ms_no (show ¬ ((1 : Int32) = 0) by decide) ?_
              by_cases hx4 : x = 4
              · refine ms_yes (by rw [hx4]; rfl) ?_
                rw [show fd_v x df (some v) = 1 from if_pos hx4] at k
                exact k
              · refine ms_no (fun z => hx4 ?_) ?_
                · exact (Iff.of_eq (ms_nI_eq (n := x) (m := 4) (by omega) (by decide))).mp z
                simp only [ms_oR_e, ms_oI_e, ms_oL_e, mm_f29, mm_p29]
                rw [e3 v hv]
                rw [show fd_v x df (some v) = v from if_neg hx4] at k
                exact k
          · refine ms_no (fun z => hh ?_) ?_
            · rw [ms_nI_eq (by have := hk.2.1; omega) (by omega)] at z
              exact z
            have k := ih2 (j + 1) N (by omega) hf
            rw [e9] at k
            unfold cl_st at k
            rw [if_neg hh] at k
            exact k
      have k := inner cs.length 0 N (by omega) hf
      rw [List.take_zero] at k
      exact k
  have k := outer Ts.length 0 M (by omega) mr_0
  rw [List.take_zero] at k
  exact k
end Zfd
