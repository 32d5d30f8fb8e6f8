/-! THE CLASS'S Reader: what reading methods give each other; written by wip/whole/mdl.py from zn_br.txt -/
section Br2
variable {b w : Nat → Nat} {n s e f k c d D p cs lv j dp y : Nat} {X Y Z : cx_T} {t g : ms_S} {res : pr_T} {as : List Value} {f0 : dn_T}
theorem rd_c1 {K : Int32 → ms_S → Prop} (hh : ms_H' d y as (ms_x X t) (RDq b n cs lv w X t res)) (hN : ∀ Y p, res = .inr p → kp4 X Y → TC Y b n → cx_i Y 3 6 = nI p → K 0 (ms_x Y t)) (hY : ∀ a Y w' cs' m, res = .inl a → kp4 X Y → RS b n a.2.1 cs' a.2.2 w' Y → (∀ i, i < cs → w' i = w i) → cs' ≤ 2 * a.2.1 → m + lv ≤ a.2.2 → a.2.2 ≤ 50 → CW w' cs cs' m a.1 → K 1 (ms_x Y t)) : ms_c1 (ms_Cl d y as (ms_x X t)) K := by
  obtain ⟨r, g', hr, hc⟩ := hh
  cases res with
  | inr p =>
    obtain ⟨Y, h1, e1, e2, h2, h3⟩ := hr
    rw [e1, e2] at hc
    exact ms_c1_i hc (hN Y p rfl h1 h2 h3)
  | inl a =>
    obtain ⟨Y, w', cs', m, h1, e1, e2, h2, h3, h4, h5, h6, h7⟩ := hr
    rw [e1, e2] at hc
    exact ms_c1_i hc (hY a Y w' cs' m rfl h1 h2 h3 h4 h5 h6 h7)
/-- what is known of a reading method by an induction -/
def KN (b : Nat → Nat) (n F k y D dp : Nat) : Prop := ∀ (X : cx_T) (t : ms_S) (f0 : dn_T) (s cs lv : Nat) (w : Nat → Nat) (res : pr_T), pz b n F k dp f0 s lv = some res → RS b n s cs lv w X → s ≤ n → cs ≤ 2 * s → lv ≤ 50 → ms_H' D y [.ref 3, .int (nI dp)] (ms_x X t) (RDq b n cs lv w X t res)
theorem RDq_r (hY : kp4 X Y) {r : Option Value} {g' : ms_S} (h : RDq b n cs lv w Y t res r g') : RDq b n cs lv w X t res r g' := by
  cases res with
  | inr p =>
    obtain ⟨Z, h1, h2⟩ := h
    exact ⟨Z, kp4_t hY h1, h2⟩
  | inl a =>
    obtain ⟨Z, w', cs', m, h1, h2⟩ := h
    exact ⟨Z, w', cs', m, kp4_t hY h1, h2⟩
end Br2
