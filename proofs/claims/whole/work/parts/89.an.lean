/-! WHAT THE CALLS ANSWER, over the book as numbers; written by wip/whole/mdl.py from an.txt -/
def an_seen (A : ab_T) (p q : Int32) : Bool := ms_ix (ab_p A) p && (ms_ix 100 q && ab_s A p.toNatClampNeg q.toNatClampNeg)
/-- from which entry an entry is, as seen on a day -/
def ab_or (A : ab_T) (e day : Nat) : Option Nat := q_or A (ab_en A e 0) (ab_src A (ab_en A e 0) day) (lb A (ab_en A e 0) (ab_src A (ab_en A e 0) day)).2 (ab_n A e)
def ab_es (A : ab_T) (e day : Nat) : Bool := ab_s A (ab_en A e 0) day
def an_least (A : ab_T) (p q w : Int32) : Int32 := if an_seen A p q && ms_ix 3 w then (if w = 0 then nI (lb A p.toNatClampNeg (ab_src A p.toNatClampNeg q.toNatClampNeg)).1 else if w = 1 then nI (ab_src A p.toNatClampNeg q.toNatClampNeg).length else nI (lb A p.toNatClampNeg (ab_src A p.toNatClampNeg q.toNatClampNeg)).2) else -1
def an_nth (l : List Nat) (i : Int32) : Int32 := if ms_ix l.length i then nI (l.getD i.toNatClampNeg 0) else -1
def an_source (A : ab_T) (p q i : Int32) : Int32 := if an_seen A p q then an_nth (ab_src A p.toNatClampNeg q.toNatClampNeg) i else -1
def an_judge (A : ab_T) (p x q : Int32) : Int32 := if an_seen A p q && ms_ix (2 ^ (ab_src A p.toNatClampNeg q.toNatClampNeg).length) x then nI (q_s A p.toNatClampNeg (ab_src A p.toNatClampNeg q.toNatClampNeg) x.toNatClampNeg) else -1
def an_es (A : ab_T) (e q : Int32) : Bool := ms_ix (ab_e A) e && (ms_ix 100 q && ab_es A e.toNatClampNeg q.toNatClampNeg)
def an_from (A : ab_T) (e q : Int32) : Int32 := if an_es A e q then or_I (ab_or A e.toNatClampNeg q.toNatClampNeg) else -2
/-- fields of c's thing, by the thing of e: right in c, not right in a -/
def ab_mr (A : ab_T) (e a c : Nat) : Nat := sm (fun f => if ab_en A c (2 + f) = ab_th A (ab_en A e 1) f ∧ ab_en A a (2 + f) ≠ ab_th A (ab_en A e 1) f then 1 else 0) 4
def ab_tp (A : ab_T) (day w e : Nat) : Nat := if ab_es A e day then (match ab_or A e day with
  | none => if w = (if ab_gh A (ab_en A e 1) then 3 else 1) then 1 else 0
  | some f => if w = 2 then 1 else if w = 4 then ab_mr A e f e else if w = 5 then ab_mr A e e f else 0) else 0
/-- the tree's sum -/
def ab_ts (A : ab_T) (day : Nat) : Nat := sm (fun p => if ab_s A p day then (lb A p (ab_src A p day)).1 else 0) (ab_p A)
def an_tree (A : ab_T) (q w : Int32) : Int32 := if ms_ix 100 q && ms_ix 6 w then (if w = 0 then nI (ab_ts A q.toNatClampNeg) else nI (sm (ab_tp A q.toNatClampNeg w.toNatClampNeg) (ab_e A))) else -1
def ab_bl (A : ab_T) (i day : Nat) : List Nat := (List.range (ab_e A)).filter (fun e => decide (ab_en A e 1 = i) && (ab_es A e day && (ab_or A e day).isNone))
def an_births (A : ab_T) (i q k : Int32) : Int32 := if (ms_ix (ab_t A) i && ab_gh A i.toNatClampNeg) && ms_ix 100 q then (if k = -1 then nI (ab_bl A i.toNatClampNeg q.toNatClampNeg).length else an_nth (ab_bl A i.toNatClampNeg q.toNatClampNeg) k) else -1
def an_drift (A : ab_T) (e q : Int32) : Int32 := if an_es A e q then (match ab_or A e.toNatClampNeg q.toNatClampNeg with
  | some f => nI (ab_en A e.toNatClampNeg 6) - nI (ab_en A f 6)
  | none => if ab_gh A (ab_en A e.toNatClampNeg 1) then 0 else nI (ab_en A e.toNatClampNeg 6) - nI (ab_th A (ab_en A e.toNatClampNeg 1) 4)) else -100
/-- does it come from there, in so many steps -/
def ab_cf (A : ab_T) (day first : Nat) : Nat → Option Nat → Bool
  | 0, _ => false
  | _ + 1, none => false
  | n + 1, some f => if f = first then true else ab_cf A day first n (ab_or A f day)
def an_weight (A : ab_T) (e q : Int32) : Int32 := if an_es A e q then nI (sm (fun o => if ab_es A o q.toNatClampNeg && ab_cf A q.toNatClampNeg e.toNatClampNeg 16 (ab_or A o q.toNatClampNeg) then 1 else 0) (ab_e A)) else -1
def an_one (A : ab_T) (a b : Int32) : Bool := (ms_ix (ab_e A) a && ms_ix (ab_e A) b) && decide (ab_en A a.toNatClampNeg 1 = ab_en A b.toNatClampNeg 1)
def an_apart (A : ab_T) (a b w : Int32) : Int32 := if an_one A a b && ms_ix 2 w then (if w = 1 then nI (ab_slips A a.toNatClampNeg b.toNatClampNeg) else nI (sm (fun f => if ab_en A a.toNatClampNeg (2 + f) = ab_en A b.toNatClampNeg (2 + f) then 0 else 1) 4)) else -1
def ab_tw (A : ab_T) (a b : Nat) : Nat → Int64
  | 0 => 1
  | f + 1 => if ab_en A a (2 + f) = ab_en A b (2 + f) ∧ ab_en A a (2 + f) ≠ ab_th A (ab_en A a 1) f then ab_tw A a b f * (Int32.toInt64 (1 + nI (ab_slip A (ab_en A a 1) f (ab_th A (ab_en A a 1) f) (ab_en A a (2 + f))))) else ab_tw A a b f
def an_twice (A : ab_T) (a b : Int32) : Int64 := if a = b then -1 else if an_one A a b then ab_tw A a.toNatClampNeg b.toNatClampNeg 4 else -1
def ab_al (A : ab_T) (e o : Nat) : Bool := decide (ab_en A o 1 = ab_en A e 1) && (decide (ab_en A o 2 = ab_en A e 2) && (decide (ab_en A o 3 = ab_en A e 3) && (decide (ab_en A o 4 = ab_en A e 4) && decide (ab_en A o 5 = ab_en A e 5))))
def an_alike (A : ab_T) (e q : Int32) : Int32 := if ms_ix (ab_e A) e && ms_ix 100 q then nI (sm (fun o => if ab_es A o q.toNatClampNeg && ab_al A e.toNatClampNeg o then 1 else 0) (ab_e A)) else -1
/-- how long a run is from there on, at most so much -/
def ab_ru (A : ab_T) (a i b j : Nat) : Nat → Nat → Nat
  | 0, n => n
  | F + 1, n => match (ab_l A a)[i + n]?, (ab_l A b)[j + n]? with
    | some e, some f => if ab_en A e 1 = ab_en A f 1 then ab_ru A a i b j F (n + 1) else n
    | _, _ => n
def ab_r2 (A : ab_T) (a b i : Nat) (acc : Nat × Int32) : Nat → Nat × Int32
  | 0 => acc
  | j + 1 => if (ab_r2 A a b i acc j).1 < ab_ru A a i b j 12 0 then (ab_ru A a i b j 12 0, nI i) else ab_r2 A a b i acc j
def ab_r1 (A : ab_T) (a b : Nat) : Nat → Nat × Int32
  | 0 => (0, -1)
  | i + 1 => ab_r2 A a b i (ab_r1 A a b i) (ab_l A b).length
def an_run (A : ab_T) (a b w : Int32) : Int32 := if a = b then -1 else if (ms_ix (ab_p A) a && ms_ix (ab_p A) b) && ms_ix 2 w then (if w = 0 then nI (ab_r1 A a.toNatClampNeg b.toNatClampNeg (ab_l A a.toNatClampNeg).length).1 else (ab_r1 A a.toNatClampNeg b.toNatClampNeg (ab_l A a.toNatClampNeg).length).2) else -1
section An
variable {d b i j k n p o e f u v x y s r c L day : Nat} {A : ab_T} {S : List Nat} {P : Nat → Bool}
theorem filt_at (h : P o = true) : ∀ r : Nat, ((List.range (o + 1 + r)).filter P)[((List.range o).filter P).length]? = some o
  | 0 => by
    rw [Nat.add_zero, List.range_succ, List.filter_append, List.getElem?_append_right (Nat.le_refl _), Nat.sub_self, List.filter_cons, if_pos h]
    rfl
  | r + 1 => by
    have ih := filt_at h r
    rw [← Nat.add_assoc, List.range_succ, List.filter_append, List.getElem?_append_left (List.getElem?_eq_some_iff.mp ih).1]
    exact ih
theorem ab_n_at (h : e < ab_e A) : (ab_l A (ab_en A e 0))[ab_n A e]? = some e := by
  have k := filt_at (P := fun f => decide (ab_en A f 0 = ab_en A e 0)) (o := e) (decide_eq_true rfl) (ab_e A - (e + 1))
  rw [show e + 1 + (ab_e A - (e + 1)) = ab_e A by omega] at k
  exact k
theorem ab_n_lt (h : e < ab_e A) : ab_n A e < (ab_l A (ab_en A e 0)).length := (List.getElem?_eq_some_iff.mp (ab_n_at h)).1
theorem q_e_n (h : e < ab_e A) : q_e A (ab_en A e 0) (ab_n A e) = e := by
  have k := q_e_of (ab_n_lt h)
  rw [ab_n_at h] at k
  exact (Option.some.inj k).symm
theorem lf_fold_in : ∀ (l : List Nat) (acc : Nat × Nat), l.foldl (lf_st A e) acc = acc ∨ ∃ f, f ∈ l ∧ ab_en A f 1 = ab_en A e 1 ∧ (l.foldl (lf_st A e) acc).2 = f
  | [], acc => Or.inl rfl
  | f :: l, acc => by
    rw [List.foldl_cons]
    rcases lf_fold_in l (lf_st A e acc f) with h | ⟨g, h1, h2, h3⟩
    · rw [h]
      unfold lf_st
      by_cases c1 : ab_en A f 1 = ab_en A e 1
      · rw [if_pos c1]
        by_cases c2 : ab_slips A f e < acc.1
        · rw [if_pos c2]
          exact Or.inr ⟨f, List.mem_cons_self, c1, rfl⟩
        · rw [if_neg c2]
          exact Or.inl rfl
      · rw [if_neg c1]
        exact Or.inl rfl
    · exact Or.inr ⟨g, List.mem_cons_of_mem _ h1, h2, h3⟩
theorem lf_in (h : (ab_lf A e o).1 ≠ NW) : (ab_lf A e o).2 ∈ ab_l A o ∧ ab_en A (ab_lf A e o).2 1 = ab_en A e 1 := by
  rcases lf_fold_in (A := A) (e := e) (ab_l A o) (NW, 0) with k | ⟨f, h1, h2, h3⟩
  · exfalso
    apply h
    unfold ab_lf
    rw [k]
  · unfold ab_lf
    rw [h3]
    exact ⟨h1, h2⟩
theorem q_or_in (h : q_or A p S x j = some f) : f < ab_e A ∧ ab_en A f 1 = ab_en A (q_e A p j) 1 ∧ ab_en A f 0 ∈ S := by
  unfold q_or at h
  split at h
  · cases h
  · rename_i hc
    rw [Option.map_eq_some_iff] at h
    obtain ⟨s, hs, e1⟩ := h
    have h1 := List.find?_some hs
    have h2 := List.mem_of_find?_eq_some hs
    rw [List.mem_range] at h2
    rw [Bool.and_eq_true, decide_eq_true_eq] at h1
    have hl : ck_m (q_lf A p S j) x S.length ≤ NW := ck_m_le _
    have hk := q_lk_le (A := A) (p := p) (i := j)
    have hne : (ab_lf A (q_e A p j) (S.getD s 0)).1 ≠ NW := by
      have : q_lf A p S j s = (ab_lf A (q_e A p j) (S.getD s 0)).1 := rfl
      unfold NW at *
      omega
    obtain ⟨k1, k2⟩ := lf_in hne
    rw [← e1]
    obtain ⟨m1, m2⟩ := ab_l_mem k1
    refine ⟨m1, k2, ?_⟩
    rw [m2, List.getD_eq_getElem?_getD, List.getElem?_eq_getElem h2]
    exact List.getElem_mem h2
theorem ab_src_mem (h : o ∈ ab_src A p day) : ab_pa A o 0 < ab_pa A p 0 ∧ ab_s A o day = true ∧ o < ab_p A := by
  have k := List.mem_of_mem_take h
  rw [List.mem_filter, Bool.and_eq_true] at k
  refine ⟨?_, k.2.2, ?_⟩
  · have := k.2.1
    unfold ab_op at this
    rw [Bool.and_eq_true, decide_eq_true_eq] at this
    exact this.1
  · have := k.2.2
    unfold ab_s at this
    rw [Bool.and_eq_true, decide_eq_true_eq] at this
    exact this.1
theorem ab_or_in (he : e < ab_e A) (h : ab_or A e day = some f) : f < ab_e A ∧ ab_en A f 1 = ab_en A e 1 ∧ ab_es A f day = true ∧ ab_pa A (ab_en A f 0) 0 < ab_pa A (ab_en A e 0) 0 := by
  obtain ⟨h1, h2, h3⟩ := q_or_in h
  rw [q_e_n he] at h2
  obtain ⟨h4, h5, _⟩ := ab_src_mem h3
  exact ⟨h1, h2, h5, h4⟩
/-- how many papers are of earlier years -/
def ab_rk (A : ab_T) (p : Nat) : Nat := ((List.range (ab_p A)).filter (fun o => decide (ab_pa A o 0 < ab_pa A p 0))).length
theorem filt_len_lt {P Q : Nat → Bool} (h : ∀ o, P o = true → Q o = true) (hp : P p = false) (hq : Q p = true) : ∀ n, p < n → ((List.range n).filter P).length < ((List.range n).filter Q).length := by
  have le : ∀ n, ((List.range n).filter P).length ≤ ((List.range n).filter Q).length := by
    intro n
    induction n with
    | zero => exact Nat.le_refl _
    | succ n ih =>
      rw [List.range_succ, List.filter_append, List.filter_append, List.length_append, List.length_append]
      by_cases c : P n = true
      · rw [List.filter_cons, if_pos c, List.filter_cons, if_pos (h n c)]
        exact Nat.add_le_add_right ih _
      · rw [List.filter_cons, if_neg c]
        exact Nat.le_trans ih (Nat.le_add_right _ _)
  intro n
  induction n with
  | zero => intro h; omega
  | succ n ih =>
    intro hn
    rw [List.range_succ, List.filter_append, List.filter_append, List.length_append, List.length_append]
    by_cases hpn : p = n
    · subst hpn
      have := le p
      rw [List.filter_cons, if_neg (by rw [hp]; decide), List.filter_cons, if_pos hq]
      show _ + 0 < _ + 1
      omega
    · have := ih (by omega)
      by_cases c : P n = true
      · rw [List.filter_cons, if_pos c, List.filter_cons, if_pos (h n c)]
        exact Nat.add_lt_add_right this _
      · rw [List.filter_cons, if_neg c]
        exact Nat.lt_of_lt_of_le this (Nat.le_add_right _ _)
theorem ab_rk_lt (hp : p < ab_p A) (h : ab_pa A p 0 < ab_pa A o 0) : ab_rk A p < ab_rk A o := by
  refine filt_len_lt (p := p) (fun q hq => ?_) (decide_eq_false (Nat.lt_irrefl _)) (decide_eq_true h) _ hp
  rw [decide_eq_true_eq] at hq ⊢
  omega
theorem ab_rk_le (w : ab_w A) (hp : p < ab_p A) : ab_rk A p < 16 := by
  have := filt_len_lt (P := fun o => decide (ab_pa A o 0 < ab_pa A p 0)) (Q := fun _ => true) (p := p) (fun _ _ => rfl) (decide_eq_false (Nat.lt_irrefl _)) rfl _ hp
  have e : ((List.range (ab_p A)).filter (fun _ => true)).length = ab_p A := by rw [List.filter_eq_self.mpr (fun _ _ => rfl), List.length_range]
  rw [e] at this
  have w1 := w.1.2.1
  unfold ab_rk
  omega
/-- more steps than there are papers make no difference -/
theorem ab_cf_more (w : ab_w A) : ∀ (n m : Nat) (f : Nat), f < ab_e A → ab_rk A (ab_en A f 0) < n → ab_rk A (ab_en A f 0) < m → ab_cf A day s n (some f) = ab_cf A day s m (some f)
  | 0, m, f, _, h, _ => by omega
  | n + 1, 0, f, _, _, h => by omega
  | n + 1, m + 1, f, hf, h1, h2 => by
    unfold ab_cf
    by_cases c : f = s
    · rw [if_pos c, if_pos c]
    · rw [if_neg c, if_neg c]
      cases ho : ab_or A f day with
      | none =>
        cases n <;> cases m <;> rfl
      | some g =>
        obtain ⟨g1, g2, g3, g4⟩ := ab_or_in hf ho
        have := ab_rk_lt (w.2.2.2.2.1 g g1).1 g4
        exact ab_cf_more w n m g g1 (by omega) (by omega)
end An
