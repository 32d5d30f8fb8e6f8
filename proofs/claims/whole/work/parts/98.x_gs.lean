/-! CALL BY CALL, both sides; written by wip/whole/mdl.py from x_gs.txt -/
section Gs
variable {X Y : cx_T} {M N : md_T} {T t : ms_S} {B : bk_T} {r : Nat → Int32} {Ts : List (List cl_T)} {i j k n p e : Nat} {A : ab_T}
/-- what a change of status leaves -/
def md_k (M N : md_T) : Prop := (∀ m, 946 ≤ m → md_a N 3 m = md_a M 3 m) ∧ (∀ m, md_a N 5 m = md_a M 5 m) ∧ ∀ m, md_a N 6 m = md_a M 6 m
theorem md_k0 : md_k M (md_ui M 0 0) := ⟨fun _ _ => rfl, fun _ => rfl, fun _ => rfl⟩
theorem md_kt {v : Int32} (h : md_k M N) : md_k M (md_tell N v) := ⟨fun m hm => by rw [md_tell_a (by decide)]; exact h.1 m hm, fun m => by rw [md_tell_a (by decide)]; exact h.2.1 m, fun m => by rw [md_tell_a (by decide)]; exact h.2.2 m⟩
theorem md_k3 {v : Int32} (h : md_k M N) (hn : n < 946) : md_k M (md_ua N 3 n v) := ⟨fun m hm => by rw [md_a_ne (by omega)]; exact h.1 m hm, fun m => by rw [md_a_fun (by decide)]; exact h.2.1 m, fun m => by rw [md_a_fun (by decide)]; exact h.2.2 m⟩
theorem md_klay {a b c e w : Int32} (h : md_k M N) (hn : n + 4 < 946) : md_k M (md_lay N n a b c e w) := by
  unfold md_lay
  exact md_k3 (md_k3 (md_k3 (md_k3 (md_k3 h (by omega)) (by omega)) (by omega)) (by omega)) (by omega)
theorem md_kP {a b c : Int32} (h : md_k M N) (hn : n < 16) : md_k M (md_addP N n a b c) := by
  unfold md_addP
  exact md_k3 (md_k3 (md_k3 (md_k3 h (by omega)) (by omega)) (by omega)) (by omega)
theorem md_kE {p th a b c e w : Int32} (h : md_k M N) (hn : n < 120) : md_k M (md_addE N n p th a b c e w) := by
  unfold md_addE
  exact md_k3 (md_klay (md_k3 (md_k3 h (by omega)) (by omega)) (by omega)) (by decide)
theorem mk_thing {a b c e w u : Int32} (hn : n ≤ 8) : md_k M (mo_thing M n a b c e w u).2 := by
  unfold mo_thing
  split
  · split
    · exact md_kt md_k0
    · exact md_kt (md_k3 (md_k3 (md_klay md_k0 (by omega)) (by omega)) (by decide))
  · exact md_kt md_k0
theorem mk_paper {a b c : Int32} (hn : n ≤ 16) : md_k M (mo_paper M n a b c).2 := by
  unfold mo_paper
  split
  · split
    · exact md_kt md_k0
    · exact md_kt (md_kP md_k0 (by omega))
  · exact md_kt md_k0
theorem mk_entry {p th a b c e w : Int32} {nt np : Nat} : md_k M (mo_entry M nt np n p th a b c e w).2 := by
  unfold mo_entry
  split
  · split
    · split
      · rename_i h
        rw [ms_and_b, decide_eq_true_eq] at h
        exact md_kt (md_kE md_k0 h.1)
      · exact md_kt md_k0
    · exact md_kt md_k0
  · exact md_kt md_k0
theorem GQ_ref {v : Int32} (h : GQ X M T) (hk : md_k M N) : GQ (co_ref X v) N T := GQ_s h rfl rfl rfl (fun n => by unfold co_ref; rw [cx_a_ua, if_neg (by omega)]; rfl) (fun c h1 h2 n => by unfold co_ref; rw [cx_a_ua, if_neg (by omega)]; rfl) hk.1 hk.2.1 hk.2.2
theorem abw (h : GR X M T) (hT : TM T (cx_b X 6) Ts) (hM : MT (md_a M 3) Ts) : ab_w (abo (cx_b X 6) Ts) := (br h.1.1 h.2.1 (hT M).1 hM).1
theorem Gs_thing {a b c e w u : Int32} (h : GR X M T) : (co_thing X a b c e w u).1 = (mo_thing M (bk_tc (cx_b X 6)) a b c e w u).1 ∧ GR (co_thing X a b c e w u).2 (mo_thing M (bk_tc (cx_b X 6)) a b c e w u).2 T := by
  obtain ⟨s1, s2⟩ := S_thing (a := a) (b := b) (c := c) (e := e) (w := w) (u := u) h.1
  refine ⟨s1, s2, ?_⟩
  have w0 : bk_w (cx_b X 6) := h.1.1.1
  have hk := mk_thing (M := M) (a := a) (b := b) (c := c) (e := e) (w := w) (u := u) w0.1
  generalize (mo_thing M (bk_tc (cx_b X 6)) a b c e w u).2 = N at hk
  unfold co_thing
  split
  · rename_i hc
    split
    · rename_i hn
      unfold sl_fs at hc
      rw [ms_and_b, ms_and_b, ms_and_b, ms_and_b, ms_and_b] at hc
      obtain ⟨⟨h1, h2, h3, h4⟩, h5, h6⟩ := hc
      obtain ⟨ja, la, rfl, _⟩ := sl_in_k (k := 9999) (by decide) h1
      obtain ⟨jb, lb, rfl, _⟩ := sl_in_k (k := 9999) (by decide) h2
      obtain ⟨jc, lc, rfl, _⟩ := sl_in_k (k := 9999) (by decide) h3
      obtain ⟨je, le, rfl, _⟩ := sl_in_k (k := 9999) (by decide) h4
      obtain ⟨jw, lw, rfl, _⟩ := sl_in_k (k := 9) (by decide) h5
      obtain ⟨ju, lu, rfl, _⟩ := sl_in_k (k := 1) (by decide) h6
      obtain ⟨o0, o1, o2, o3, o4, o5, o6, o7⟩ := bk_addT_o (B := cx_b X 6) (a := nI ja) (b := nI jb) (c := nI jc) (e := nI je) (w := nI jw) (u := nI ju)
      have hv := VR_T h.2.1 (a := ja) (b := jb) (c := jc) (e := je) (w := jw) (u := ju) (by omega) (by omega) (by omega) (by omega) (by omega) (by omega)
      have hth : ∀ i j, i < bk_tc (cx_b X 6) → j < 6 → bk_th (bk_addT (cx_b X 6) (nI ja) (nI jb) (nI jc) (nI je) (nI jw) (nI ju)) (i * 6 + j) = bk_th (cx_b X 6) (i * 6 + j) := fun i j hi hj => by
        rw [bk_addT_th, if_neg (by omega), if_neg (by omega), if_neg (by omega), if_neg (by omega), if_neg (by omega), if_neg (by omega)]
      have e6 : cx_b (co_acc (cx_ub X 6 (bk_addT (cx_b X 6) (nI ja) (nI jb) (nI jc) (nI je) (nI jw) (nI ju)))) 6 = bk_addT (cx_b X 6) (nI ja) (nI jb) (nI jc) (nI je) (nI jw) (nI ju) := cx_b_ub
      refine GQ_b h.2 (by rw [e6]; exact hv) (by rw [e6, o3]) (by rw [e6, o7]) ?_ (cx_b_ne (by decide)) (cx_b_ne (by decide)) (fun n => rfl) hk.1 hk.2.1 hk.2.2
      obtain ⟨Ts, t1, t2, t3⟩ := h.2.2.1
      refine ⟨Ts, t1, t2, ?_⟩
      rw [e6]
      refine LC_th (A := abo (cx_b X 6) Ts) ⟨⟨o1, o2⟩, ?_, fun i hi j => ?_⟩ (abw h t1 t2) (LC_c t3 (fun c h1 h2 n => rfl))
      · unfold abo
        rw [o1, o2, o4, o6]
      · have hi' : i < bk_tc (cx_b X 6) := hi
        rw [abo_th, abo_th, o0]
        by_cases hj : j < 6
        · rw [if_pos ⟨by omega, hj⟩, if_pos ⟨hi', hj⟩, hth i j hi' hj]
        · rw [if_neg (fun z => hj z.2), if_neg (fun z => hj z.2)]
    · exact GQ_ref h.2 hk
  · exact GQ_ref h.2 hk
theorem fo_16 {c : Nat} (h1 : 25 ≤ c) (h2 : c ≤ 27) (hn : n < 16) : cx_a (co_forget X) c n = -1 := by
  unfold co_forget
  by_cases h27 : c = 27
  · subst h27
    rw [cx_a_sa]
    exact if_pos hn
  · by_cases h26 : c = 26
    · subst h26
      rw [cx_a_sn (by decide), cx_a_sa]
      exact if_pos hn
    · have h25 : c = 25 := by omega
      subst h25
      rw [cx_a_sn (by decide), cx_a_sn (by decide), cx_a_sa]
      exact if_pos hn
theorem fo_63 : cx_a (co_forget X) 63 n = cx_a X 63 n := by
  unfold co_forget
  rw [cx_a_sn (by decide), cx_a_sn (by decide), cx_a_sn (by decide)]
theorem Gs_paper {a b c : Int32} (h : GR X M T) : (co_paper X a b c).1 = (mo_paper M (bk_pc (cx_b X 6)) a b c).1 ∧ GR (co_paper X a b c).2 (mo_paper M (bk_pc (cx_b X 6)) a b c).2 T := by
  obtain ⟨s1, s2⟩ := S_paper (a := a) (b := b) (c := c) h.1
  refine ⟨s1, s2, ?_⟩
  have w0 : bk_w (cx_b X 6) := h.1.1.1
  have hk := mk_paper (M := M) (a := a) (b := b) (c := c) w0.2.1
  have hpc := s2.1.1.2.1
  generalize (mo_paper M (bk_pc (cx_b X 6)) a b c).2 = N at hk
  unfold co_paper at hpc ⊢
  split at hpc
  · rename_i hc
    rw [if_pos hc]
    split at hpc
    · rename_i hn
      rw [if_pos hn]
      rw [ms_and_b, ms_and_b] at hc
      obtain ⟨h1, h2, h3⟩ := hc
      obtain ⟨ja, la, rfl, _⟩ := sl_in_k (k := 399) (by decide) h1
      obtain ⟨jb, lb, rfl, _⟩ := sl_in_k (k := 7) (by decide) h2
      obtain ⟨jc, lc, rfl, _⟩ := sl_in_k (k := 99) (by decide) h3
      obtain ⟨o0, o1, o2, o3, o4, o5, o6, o7⟩ := bk_addP_o (B := cx_b X 6) (a := nI ja) (b := nI jb) (c := nI jc)
      have hv := VR_P h.2.1 (a := ja) (b := jb) (c := jc) (by omega) (by omega) (by omega)
      have e6 : cx_b (co_acc (cx_ub (co_forget X) 6 (bk_addP (cx_b X 6) (nI ja) (nI jb) (nI jc)))) 6 = bk_addP (cx_b X 6) (nI ja) (nI jb) (nI jc) := cx_b_ub
      rw [e6] at hpc
      refine GQ_b h.2 (by rw [e6]; exact hv) (by rw [e6, o3]) (by rw [e6, o7]) ?_ (cx_b_ne (by decide)) (cx_b_ne (by decide)) (fun n => fo_63) hk.1 hk.2.1 hk.2.2
      obtain ⟨Ts, t1, t2, _⟩ := h.2.2.1
      refine ⟨Ts, t1, t2, ?_⟩
      rw [e6]
      exact LC_fo hpc (fun c h1 h2 n hn => fo_16 h1 h2 hn)
    · rename_i hn
      rw [if_neg hn]
      exact GQ_ref h.2 hk
  · rename_i hc
    rw [if_neg hc]
    exact GQ_ref h.2 hk
theorem Gs_entry {p th a b c e w : Int32} (h : GR X M T) : (co_entry X p th a b c e w).1 = (mo_entry M (bk_tc (cx_b X 6)) (bk_pc (cx_b X 6)) (bk_ec (cx_b X 6)) p th a b c e w).1 ∧ GR (co_entry X p th a b c e w).2 (mo_entry M (bk_tc (cx_b X 6)) (bk_pc (cx_b X 6)) (bk_ec (cx_b X 6)) p th a b c e w).2 T := by
  obtain ⟨s1, s2⟩ := S_entry (p := p) (th := th) (a := a) (b := b) (c := c) (e := e) (w := w) h.1
  refine ⟨s1, s2, ?_⟩
  have w0 : bk_w (cx_b X 6) := h.1.1.1
  have hk := mk_entry (M := M) (n := bk_ec (cx_b X 6)) (nt := bk_tc (cx_b X 6)) (np := bk_pc (cx_b X 6)) (p := p) (th := th) (a := a) (b := b) (c := c) (e := e) (w := w)
  have hpc := s2.1.1.2.1
  generalize (mo_entry M (bk_tc (cx_b X 6)) (bk_pc (cx_b X 6)) (bk_ec (cx_b X 6)) p th a b c e w).2 = N at hk
  unfold co_entry at hpc ⊢
  split at hpc
  · rename_i hc
    rw [if_pos hc]
    split at hpc
    · rename_i hn
      rw [if_pos hn]
      split at hpc
      · rename_i hr
        rw [if_pos hr]
        unfold sl_fs at hc
        rw [ms_and_b, ms_and_b, ms_and_b, ms_and_b] at hc
        rw [ms_and_b] at hn
        obtain ⟨⟨h1, h2, h3, h4⟩, h5⟩ := hc
        obtain ⟨ja, la, rfl, _⟩ := sl_in_k (k := 9999) (by decide) h1
        obtain ⟨jb, lb, rfl, _⟩ := sl_in_k (k := 9999) (by decide) h2
        obtain ⟨jc, lc, rfl, _⟩ := sl_in_k (k := 9999) (by decide) h3
        obtain ⟨je, le, rfl, _⟩ := sl_in_k (k := 9999) (by decide) h4
        obtain ⟨jw, lw, rfl, _⟩ := sl_in_k (k := 9) (by decide) h5
        obtain ⟨jt, lt, rfl, _⟩ := ms_ix_k hn.2
        have htc := w0.1
        have hv := VR_E h.2.1 (p := p.toNatClampNeg) (th := jt) (a := ja) (b := jb) (c := jc) (e := je) (w := jw) (by omega) (by omega) (by omega) (by omega) (by omega) (by omega)
        have e6 : cx_b (co_acc (cx_ub (co_forget X) 6 (bk_addE (cx_b X 6) p.toNatClampNeg (nI jt) (nI ja) (nI jb) (nI jc) (nI je) (nI jw)))) 6 = bk_addE (cx_b X 6) p.toNatClampNeg (nI jt) (nI ja) (nI jb) (nI jc) (nI je) (nI jw) := cx_b_ub
        rw [e6] at hpc
        refine GQ_b h.2 (by rw [e6]; exact hv) (by rw [e6, bk_addE_xc]) (by rw [e6, bk_addE_o.2]) ?_ (cx_b_ne (by decide)) (cx_b_ne (by decide)) (fun n => fo_63) hk.1 hk.2.1 hk.2.2
        obtain ⟨Ts, t1, t2, _⟩ := h.2.2.1
        refine ⟨Ts, t1, t2, ?_⟩
        rw [e6]
        exact LC_fo hpc (fun c h1 h2 n hn => fo_16 h1 h2 hn)
      · rename_i hr
        rw [if_neg hr]
        exact GQ_ref h.2 hk
    · rename_i hn
      rw [if_neg hn]
      exact GQ_ref h.2 hk
  · rename_i hc
    rw [if_neg hc]
    exact GQ_ref h.2 hk
end Gs
