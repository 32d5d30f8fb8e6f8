/-! FROM THE RELATION TO THE NUMBERS; written by wip/whole/mdl.py from u_br.txt -/
/-- a book's numbers -/
def abo (B : bk_T) (Ts : List (List cl_T)) : ab_T := ((bk_tc B, bk_pc B, bk_ec B), (fun i j => if i < bk_tc B ∧ j < 6 then (bk_th B (i * 6 + j)).toNatClampNeg else 0), (fun i j => if i < bk_pc B ∧ j < 3 then (bk_pa B (i * 4 + j)).toNatClampNeg else 0), (fun e j => if e < bk_ec B then (if j = 0 then (bk_en B (e * 8)).toNatClampNeg else if j < 7 then (bk_en B (e * 8 + 1 + j)).toNatClampNeg else 0) else 0), Ts)
def VR (B : bk_T) : Prop := (∀ i j, i < bk_tc B → j < 6 → ∃ n, n < 10000 ∧ bk_th B (i * 6 + j) = nI n) ∧ (∀ p j, p < bk_pc B → j < 3 → ∃ n, n < 400 ∧ bk_pa B (p * 4 + j) = nI n) ∧ ∀ e j, e < bk_ec B → j < 6 → ∃ n, n < 10000 ∧ bk_en B (e * 8 + 2 + j) = nI n
section Br
variable {B : bk_T} {r : Nat → Int32} {Ts : List (List cl_T)} {i j k n p e : Nat} {A : ab_T}
theorem abo_th : ab_th (abo B Ts) i j = if i < bk_tc B ∧ j < 6 then (bk_th B (i * 6 + j)).toNatClampNeg else 0 := rfl
theorem abo_pa : ab_pa (abo B Ts) i j = if i < bk_pc B ∧ j < 3 then (bk_pa B (i * 4 + j)).toNatClampNeg else 0 := rfl
theorem abo_en : ab_en (abo B Ts) e j = if e < bk_ec B then (if j = 0 then (bk_en B (e * 8)).toNatClampNeg else if j < 7 then (bk_en B (e * 8 + 1 + j)).toNatClampNeg else 0) else 0 := rfl
/-- an entry's paper -/
theorem br_p (h : RB B r) (he : e < bk_ec B) : ab_en (abo B Ts) e 0 < bk_pc B ∧ r (106 + 7 * e) = nI (ab_en (abo B Ts) e 0) := by
  obtain ⟨w0, _, _, _, _, a4, _⟩ := h
  have hpc := w0.2.1
  obtain ⟨⟨h1, _⟩, ⟨p, hp, h2⟩, _⟩ := a4 e he
  rw [abo_en, if_pos he, if_pos rfl, h1, h2, ms_nc (by omega)]
  exact ⟨hp, rfl⟩
theorem bro_f (h : RB B r) (v : VR B) (he : e < bk_ec B) (h0 : 1 ≤ j) (hj : j < 7) : ab_en (abo B Ts) e j < 10000 ∧ r (106 + 7 * e + j) = nI (ab_en (abo B Ts) e j) ∧ bk_en B (e * 8 + 1 + j) = nI (ab_en (abo B Ts) e j) := by
  obtain ⟨w0, _, _, _, _, a4, _⟩ := h
  obtain ⟨⟨_, _, h3⟩, _, _⟩ := a4 e he
  obtain ⟨n, hn, h4⟩ := v.2.2 e (j - 1) he (by omega)
  have h5 := h3 (j - 1) (by omega)
  rw [show e * 8 + 2 + (j - 1) = e * 8 + 1 + j by omega] at h4 h5
  rw [show 106 + 7 * e + 1 + (j - 1) = 106 + 7 * e + j by omega] at h5
  rw [abo_en, if_pos he, if_neg (by omega), if_pos hj, h4, ms_nc (by omega)]
  exact ⟨hn, by rw [← h5, h4], rfl⟩
theorem br_rc (h : RB B r) (hp : p < 2 ^ 31) : ∀ n, n ≤ bk_ec B → rc r (nI p) n = ((List.range n).filter (fun e => decide (ab_en (abo B Ts) e 0 = p))).length
  | 0, _ => rfl
  | n + 1, hn => by
    have ih := br_rc h hp n (by omega)
    obtain ⟨g1, g2⟩ := br_p (Ts := Ts) h (show n < bk_ec B by omega)
    have hpc := h.1.2.1
    rw [rc, ih, filt_s, List.length_append, g2]
    by_cases hq : ab_en (abo B Ts) n 0 = p
    · rw [if_pos (by rw [hq]), if_pos (decide_eq_true hq)]
      rfl
    · rw [if_neg (fun z => hq (by rwa [ms_nI_eq (by omega) hp] at z)), decide_eq_false hq, if_neg (by decide)]
      rfl
theorem br_rn (h : RB B r) (hp : p < 2 ^ 31) : ∀ n i e, n ≤ bk_ec B → ((List.range n).filter (fun e => decide (ab_en (abo B Ts) e 0 = p)))[i]? = some e → rn r (nI p) (nI i) n = nI e
  | 0, i, e, _, h2 => by cases h2
  | n + 1, i, e, hn, h2 => by
    have ih := br_rn h hp n i e (by omega)
    have hc := br_rc (Ts := Ts) h hp n (by omega)
    obtain ⟨g1, g2⟩ := br_p (Ts := Ts) h (show n < bk_ec B by omega)
    have hpc := h.1.2.1
    have hec := h.1.2.2.1
    have hle := rc_le (r := r) (p := nI p) n
    rw [filt_s] at h2
    rw [rn, g2]
    by_cases hq : ab_en (abo B Ts) n 0 = p
    · rw [if_pos (decide_eq_true hq)] at h2
      have hil : i < ((List.range n).filter (fun e => decide (ab_en (abo B Ts) e 0 = p))).length + 1 := by
        have := (List.getElem?_eq_some_iff.mp h2).1
        rw [List.length_append] at this
        exact this
      by_cases hi : i = rc r (nI p) n
      · rw [if_pos ⟨by rw [hq], by rw [hi]⟩]
        rw [hi, hc, List.getElem?_append_right (Nat.le_refl _), Nat.sub_self] at h2
        cases h2
        rfl
      · rw [if_neg (fun z => hi (by have := z.2; rw [ms_nI_eq (by omega) (by omega)] at this; omega))]
        rw [List.getElem?_append_left (by omega)] at h2
        exact ih h2
    · rw [if_neg (fun z => hq (by have := z.1; rwa [ms_nI_eq (by omega) hp] at this))]
      rw [decide_eq_false hq, if_neg (by decide), List.append_nil] at h2
      exact ih h2
theorem br (h : RB B r) (v : VR B) (hT : Ts.length = bk_xc B) (hM : MT r Ts) : ab_w (abo B Ts) ∧ RA (abo B Ts) B ∧ RM (abo B Ts) r := by
  have hb := h
  obtain ⟨w0, ⟨k0, k1, k2, k3⟩, a1, a2, a3, a4, a5⟩ := h
  have w1 : bk_tc B ≤ 8 ∧ bk_pc B ≤ 16 ∧ bk_ec B ≤ 120 ∧ bk_xc B ≤ 20 := w0
  have th : ∀ i j, i < bk_tc B → j < 6 → ab_th (abo B Ts) i j < 10000 ∧ bk_th B (i * 6 + j) = nI (ab_th (abo B Ts) i j) := fun i j hi hj => by
    obtain ⟨n, hn, h4⟩ := v.1 i j hi hj
    rw [abo_th, if_pos ⟨hi, hj⟩, h4, ms_nc (by omega)]
    exact ⟨hn, rfl⟩
  have pa : ∀ i j, i < bk_pc B → j < 3 → ab_pa (abo B Ts) i j < 400 ∧ bk_pa B (i * 4 + j) = nI (ab_pa (abo B Ts) i j) := fun i j hi hj => by
    obtain ⟨n, hn, h4⟩ := v.2.1 i j hi hj
    rw [abo_pa, if_pos ⟨hi, hj⟩, h4, ms_nc (by omega)]
    exact ⟨hn, rfl⟩
  have len : ∀ p, p < bk_pc B → (ab_l (abo B Ts) p).length = rc r (nI p) (bk_ec B) := fun p hp => (br_rc hb (by omega) (bk_ec B) (Nat.le_refl _)).symm
  have ent : ∀ e, e < bk_ec B → ab_en (abo B Ts) e 1 < bk_tc B := fun e he => by
    obtain ⟨_, _, ⟨t, ht, h2⟩⟩ := a4 e he
    have := (bro_f (Ts := Ts) hb v he (Nat.le_refl 1) (by decide)).2.1
    rw [h2, ms_nI_eq (by omega) (by have := (bro_f (Ts := Ts) hb v he (Nat.le_refl 1) (by decide)).1; omega)] at this
    omega
  refine ⟨⟨⟨w1.1, w1.2.1, w1.2.2.1, by rw [show (ab_x (abo B Ts)).length = bk_xc B from hT]; exact w1.2.2.2⟩, fun i j => ?_, fun i j => ?_, fun e j => ?_, fun e he => ⟨(br_p hb he).1, ent e he⟩, fun p => ?_⟩, ⟨⟨rfl, rfl, rfl, hT.symm⟩, fun i j hi hj => (th i j hi hj).2, fun p j hp hj => (pa p j hp hj).2, fun p hp => by rw [len p hp]; exact (a3 p hp).2, fun p i e hp he => ?_, fun e he => ⟨?_, ?_, fun j hj => ?_⟩⟩, ⟨⟨k0, k1, k2, by rw [k3, show (ab_x (abo B Ts)).length = bk_xc B from hT]⟩, fun i j hi hj => ?_, fun p j hp hj => ?_, fun e j he hj => ?_, hM⟩⟩
  · by_cases hc : i < bk_tc B ∧ j < 6
    · exact (th i j hc.1 hc.2).1
    · rw [abo_th, if_neg hc]; decide
  · by_cases hc : i < bk_pc B ∧ j < 3
    · exact (pa i j hc.1 hc.2).1
    · rw [abo_pa, if_neg hc]; decide
  · by_cases he : e < bk_ec B
    · by_cases h0 : j = 0
      · have := (br_p (Ts := Ts) hb he).1
        rw [h0]
        omega
      · by_cases h7 : j < 7
        · exact (bro_f hb v he (by omega) h7).1
        · rw [abo_en, if_pos he, if_neg h0, if_neg h7]; decide
    · rw [abo_en, if_neg he]; decide
  · by_cases hp : p < bk_pc B
    · rw [len p hp]
      exact (a3 p hp).1
    · have : ab_l (abo B Ts) p = [] := by
        refine List.filter_eq_nil_iff.mpr (fun x hx => ?_)
        have := (br_p (Ts := Ts) hb (List.mem_range.mp hx)).1
        rw [decide_eq_true_eq]
        omega
      rw [this]
      exact Nat.zero_le _
  · have hp' : p < bk_pc B := hp
    have hil : i < (ab_l (abo B Ts) p).length := (List.getElem?_eq_some_iff.mp he).1
    rw [len p hp'] at hil
    rw [a5 p i hp' hil]
    exact br_rn hb (by omega) (bk_ec B) i e (Nat.le_refl _) he
  · rw [(a4 e he).1.1]
    exact (br_p hb he).2
  · rw [(a4 e he).1.2.1, (br_p (Ts := Ts) hb he).2, br_rc (Ts := Ts) hb (by have := (br_p (Ts := Ts) hb he).1; omega) e (Nat.le_of_lt he)]
    rfl
  · have := (bro_f (Ts := Ts) hb v he (j := 1 + j) (by omega) (by omega)).2.2
    rw [show e * 8 + 1 + (1 + j) = e * 8 + 2 + j by omega] at this
    exact this
  · rw [← a1 i j hi hj]
    exact (th i j hi hj).2
  · rw [← a2 p j hp hj]
    exact (pa p j hp hj).2
  · by_cases h0 : j = 0
    · rw [h0]
      exact (br_p hb he).2
    · exact (bro_f hb v he (by omega) hj).2.1
end Br
