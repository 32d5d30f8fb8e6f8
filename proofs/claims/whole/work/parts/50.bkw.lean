/-! BOOK: its cells as a function of its contents: written by wip/whole/bkw.py -/
def bk_stc (B : bk_T) (n : Nat) : bk_T := (n, B.2.1, B.2.2.1, B.2.2.2.1, B.2.2.2.2.1, B.2.2.2.2.2.1, B.2.2.2.2.2.2.1, B.2.2.2.2.2.2.2.1, B.2.2.2.2.2.2.2.2)
def bk_spc (B : bk_T) (n : Nat) : bk_T := (B.1, n, B.2.2.1, B.2.2.2.1, B.2.2.2.2.1, B.2.2.2.2.2.1, B.2.2.2.2.2.2.1, B.2.2.2.2.2.2.2.1, B.2.2.2.2.2.2.2.2)
def bk_sec (B : bk_T) (n : Nat) : bk_T := (B.1, B.2.1, n, B.2.2.2.1, B.2.2.2.2.1, B.2.2.2.2.2.1, B.2.2.2.2.2.2.1, B.2.2.2.2.2.2.2.1, B.2.2.2.2.2.2.2.2)
def bk_sxc (B : bk_T) (n : Nat) : bk_T := (B.1, B.2.1, B.2.2.1, n, B.2.2.2.2.1, B.2.2.2.2.2.1, B.2.2.2.2.2.2.1, B.2.2.2.2.2.2.2.1, B.2.2.2.2.2.2.2.2)
def bk_uth (B : bk_T) (n : Nat) (x : Int32) : bk_T := (B.1, B.2.1, B.2.2.1, B.2.2.2.1, upd B.2.2.2.2.1 n x, B.2.2.2.2.2.1, B.2.2.2.2.2.2.1, B.2.2.2.2.2.2.2.1, B.2.2.2.2.2.2.2.2)
def bk_upa (B : bk_T) (n : Nat) (x : Int32) : bk_T := (B.1, B.2.1, B.2.2.1, B.2.2.2.1, B.2.2.2.2.1, upd B.2.2.2.2.2.1 n x, B.2.2.2.2.2.2.1, B.2.2.2.2.2.2.2.1, B.2.2.2.2.2.2.2.2)
def bk_uli (B : bk_T) (n : Nat) (x : Int32) : bk_T := (B.1, B.2.1, B.2.2.1, B.2.2.2.1, B.2.2.2.2.1, B.2.2.2.2.2.1, upd B.2.2.2.2.2.2.1 n x, B.2.2.2.2.2.2.2.1, B.2.2.2.2.2.2.2.2)
def bk_uen (B : bk_T) (n : Nat) (x : Int32) : bk_T := (B.1, B.2.1, B.2.2.1, B.2.2.2.1, B.2.2.2.2.1, B.2.2.2.2.2.1, B.2.2.2.2.2.2.1, upd B.2.2.2.2.2.2.2.1 n x, B.2.2.2.2.2.2.2.2)
def bk_utx (B : bk_T) (n : Nat) (x : Option Nat) : bk_T := (B.1, B.2.1, B.2.2.1, B.2.2.2.1, B.2.2.2.2.1, B.2.2.2.2.2.1, B.2.2.2.2.2.2.1, B.2.2.2.2.2.2.2.1, va_up B.2.2.2.2.2.2.2.2 n x)
section Be
variable {B : bk_T} {n : Nat} {x : Int32} {o : Option Nat}
theorem be_tc_tc : bk_tc (bk_stc B n) = n := rfl
theorem be_tc_pc : bk_tc (bk_spc B n) = bk_tc B := rfl
theorem be_tc_ec : bk_tc (bk_sec B n) = bk_tc B := rfl
theorem be_tc_xc : bk_tc (bk_sxc B n) = bk_tc B := rfl
theorem be_tc_th : bk_tc (bk_uth B n x) = bk_tc B := rfl
theorem be_tc_pa : bk_tc (bk_upa B n x) = bk_tc B := rfl
theorem be_tc_li : bk_tc (bk_uli B n x) = bk_tc B := rfl
theorem be_tc_en : bk_tc (bk_uen B n x) = bk_tc B := rfl
theorem be_tc_tx : bk_tc (bk_utx B n o) = bk_tc B := rfl
theorem be_pc_tc : bk_pc (bk_stc B n) = bk_pc B := rfl
theorem be_pc_pc : bk_pc (bk_spc B n) = n := rfl
theorem be_pc_ec : bk_pc (bk_sec B n) = bk_pc B := rfl
theorem be_pc_xc : bk_pc (bk_sxc B n) = bk_pc B := rfl
theorem be_pc_th : bk_pc (bk_uth B n x) = bk_pc B := rfl
theorem be_pc_pa : bk_pc (bk_upa B n x) = bk_pc B := rfl
theorem be_pc_li : bk_pc (bk_uli B n x) = bk_pc B := rfl
theorem be_pc_en : bk_pc (bk_uen B n x) = bk_pc B := rfl
theorem be_pc_tx : bk_pc (bk_utx B n o) = bk_pc B := rfl
theorem be_ec_tc : bk_ec (bk_stc B n) = bk_ec B := rfl
theorem be_ec_pc : bk_ec (bk_spc B n) = bk_ec B := rfl
theorem be_ec_ec : bk_ec (bk_sec B n) = n := rfl
theorem be_ec_xc : bk_ec (bk_sxc B n) = bk_ec B := rfl
theorem be_ec_th : bk_ec (bk_uth B n x) = bk_ec B := rfl
theorem be_ec_pa : bk_ec (bk_upa B n x) = bk_ec B := rfl
theorem be_ec_li : bk_ec (bk_uli B n x) = bk_ec B := rfl
theorem be_ec_en : bk_ec (bk_uen B n x) = bk_ec B := rfl
theorem be_ec_tx : bk_ec (bk_utx B n o) = bk_ec B := rfl
theorem be_xc_tc : bk_xc (bk_stc B n) = bk_xc B := rfl
theorem be_xc_pc : bk_xc (bk_spc B n) = bk_xc B := rfl
theorem be_xc_ec : bk_xc (bk_sec B n) = bk_xc B := rfl
theorem be_xc_xc : bk_xc (bk_sxc B n) = n := rfl
theorem be_xc_th : bk_xc (bk_uth B n x) = bk_xc B := rfl
theorem be_xc_pa : bk_xc (bk_upa B n x) = bk_xc B := rfl
theorem be_xc_li : bk_xc (bk_uli B n x) = bk_xc B := rfl
theorem be_xc_en : bk_xc (bk_uen B n x) = bk_xc B := rfl
theorem be_xc_tx : bk_xc (bk_utx B n o) = bk_xc B := rfl
theorem be_th_tc : bk_th (bk_stc B n) = bk_th B := rfl
theorem be_th_pc : bk_th (bk_spc B n) = bk_th B := rfl
theorem be_th_ec : bk_th (bk_sec B n) = bk_th B := rfl
theorem be_th_xc : bk_th (bk_sxc B n) = bk_th B := rfl
theorem be_th_th : bk_th (bk_uth B n x) = upd (bk_th B) n x := rfl
theorem be_th_pa : bk_th (bk_upa B n x) = bk_th B := rfl
theorem be_th_li : bk_th (bk_uli B n x) = bk_th B := rfl
theorem be_th_en : bk_th (bk_uen B n x) = bk_th B := rfl
theorem be_th_tx : bk_th (bk_utx B n o) = bk_th B := rfl
theorem be_pa_tc : bk_pa (bk_stc B n) = bk_pa B := rfl
theorem be_pa_pc : bk_pa (bk_spc B n) = bk_pa B := rfl
theorem be_pa_ec : bk_pa (bk_sec B n) = bk_pa B := rfl
theorem be_pa_xc : bk_pa (bk_sxc B n) = bk_pa B := rfl
theorem be_pa_th : bk_pa (bk_uth B n x) = bk_pa B := rfl
theorem be_pa_pa : bk_pa (bk_upa B n x) = upd (bk_pa B) n x := rfl
theorem be_pa_li : bk_pa (bk_uli B n x) = bk_pa B := rfl
theorem be_pa_en : bk_pa (bk_uen B n x) = bk_pa B := rfl
theorem be_pa_tx : bk_pa (bk_utx B n o) = bk_pa B := rfl
theorem be_li_tc : bk_li (bk_stc B n) = bk_li B := rfl
theorem be_li_pc : bk_li (bk_spc B n) = bk_li B := rfl
theorem be_li_ec : bk_li (bk_sec B n) = bk_li B := rfl
theorem be_li_xc : bk_li (bk_sxc B n) = bk_li B := rfl
theorem be_li_th : bk_li (bk_uth B n x) = bk_li B := rfl
theorem be_li_pa : bk_li (bk_upa B n x) = bk_li B := rfl
theorem be_li_li : bk_li (bk_uli B n x) = upd (bk_li B) n x := rfl
theorem be_li_en : bk_li (bk_uen B n x) = bk_li B := rfl
theorem be_li_tx : bk_li (bk_utx B n o) = bk_li B := rfl
theorem be_en_tc : bk_en (bk_stc B n) = bk_en B := rfl
theorem be_en_pc : bk_en (bk_spc B n) = bk_en B := rfl
theorem be_en_ec : bk_en (bk_sec B n) = bk_en B := rfl
theorem be_en_xc : bk_en (bk_sxc B n) = bk_en B := rfl
theorem be_en_th : bk_en (bk_uth B n x) = bk_en B := rfl
theorem be_en_pa : bk_en (bk_upa B n x) = bk_en B := rfl
theorem be_en_li : bk_en (bk_uli B n x) = bk_en B := rfl
theorem be_en_en : bk_en (bk_uen B n x) = upd (bk_en B) n x := rfl
theorem be_en_tx : bk_en (bk_utx B n o) = bk_en B := rfl
theorem be_tx_tc : bk_tx (bk_stc B n) = bk_tx B := rfl
theorem be_tx_pc : bk_tx (bk_spc B n) = bk_tx B := rfl
theorem be_tx_ec : bk_tx (bk_sec B n) = bk_tx B := rfl
theorem be_tx_xc : bk_tx (bk_sxc B n) = bk_tx B := rfl
theorem be_tx_th : bk_tx (bk_uth B n x) = bk_tx B := rfl
theorem be_tx_pa : bk_tx (bk_upa B n x) = bk_tx B := rfl
theorem be_tx_li : bk_tx (bk_uli B n x) = bk_tx B := rfl
theorem be_tx_en : bk_tx (bk_uen B n x) = bk_tx B := rfl
theorem be_tx_tx : bk_tx (bk_utx B n o) = va_up (bk_tx B) n o := rfl
end Be
def ms_b (h : ms_S) (B : bk_T) (t : ms_S) : ms_S := h ++ (ct_bk h.length B ++ t)
def bk_w (B : bk_T) : Prop := bk_tc B ≤ 8 ∧ bk_pc B ≤ 16 ∧ bk_ec B ≤ 120 ∧ bk_xc B ≤ 20
section Bw
variable {h t : ms_S} {B B2 : bk_T}
theorem ms_b_0 : (ms_b h B t)[h.length]? = some (.inr (0, bk_o h.length B)) := ms_g0 h _
theorem ms_b_bk (w : bk_w B) : bk (ms_b h B t) h.length B := ⟨ms_b_0, ms_ga h _ 1, ms_ga h _ 2, ms_ga h _ 3, ms_ga h _ 4, ms_ga h _ 5, w.1, w.2.1, w.2.2.1, w.2.2.2⟩
theorem ms_b_len : (ms_b h B t).length = h.length + (6 + t.length) := by unfold ms_b; rw [List.length_append, List.length_append]; congr 2
theorem ms_b_l : (ms_b h B t).length ≤ (ms_b h B2 t).length := by rw [ms_b_len, ms_b_len]; exact Nat.le_refl _
theorem ms_b_t : ms_tot (ms_b h B t) ≤ ms_tot (ms_b h B2 t) := by
  unfold ms_b
  rw [ms_tot_app2, ms_tot_app2, ms_tot_app2, ms_tot_app2]
  exact Nat.le_refl _
theorem bk_set (k : Nat) (c : ms_C) (B2 : bk_T) (hk : ∀ n, (ct_bk n B).set k c = ct_bk n B2) (hl : k < 6) : (ms_b h B t).set (h.length + k) c = ms_b h B2 t := by
  unfold ms_b
  rw [ms_sk, List.set_append_left _ _ (show k < (ct_bk h.length B).length from hl), hk]
theorem bk_put (k : Nat) (v : Value) (B2 : bk_T) (hk : ∀ n, (bk_o n B).set k v = bk_o n B2) (hc : ∀ n, (ct_bk n B).tail = (ct_bk n B2).tail) : ms_put (ms_b h B t) h.length k v = ms_b h B2 t := by
  unfold ms_put
  rw [ms_b_0]
  unfold ms_b
  show (h ++ (ct_bk h.length B ++ t)).set h.length _ = _
  rw [hk, ms_s0]
  show h ++ (.inr (0, bk_o h.length B2) :: ((ct_bk h.length B).tail ++ t)) = _
  rw [hc]
  rfl
theorem mb_f0 : ms_fldR (ms_b h B t) h.length 0 0 = some (h.length + 1) := ms_fldR_of ms_b_0 rfl
theorem mb_f1 : ms_fldR (ms_b h B t) h.length 0 1 = some (h.length + 2) := ms_fldR_of ms_b_0 rfl
theorem mb_f2 : ms_fldR (ms_b h B t) h.length 0 2 = some (h.length + 3) := ms_fldR_of ms_b_0 rfl
theorem mb_f3 : ms_fldR (ms_b h B t) h.length 0 3 = some (h.length + 4) := ms_fldR_of ms_b_0 rfl
theorem mb_f4 : ms_fldR (ms_b h B t) h.length 0 4 = some (h.length + 5) := ms_fldR_of ms_b_0 rfl
theorem mb_f5 : ms_fldI (ms_b h B t) h.length 0 5 = some (nI (bk_tc B)) := ms_fldI_of ms_b_0 rfl
theorem mb_p5 {n : Nat} {K : ms_S → Prop} : ms_wF (ms_b h B t) h.length 0 5 (.int (nI n)) K = K (ms_b h (bk_stc B n) t) := by
  unfold ms_wF; rw [ms_fld_of ms_b_0 (show (bk_o h.length B)[5]? = some (.int (nI (bk_tc B))) from rfl)]
  show (True ∧ K _) = _
  rw [bk_put (B := B) 5 (.int (nI n)) (bk_stc B n) (fun _ => rfl) (fun _ => rfl), true_and]
theorem mb_f6 : ms_fldI (ms_b h B t) h.length 0 6 = some (nI (bk_pc B)) := ms_fldI_of ms_b_0 rfl
theorem mb_p6 {n : Nat} {K : ms_S → Prop} : ms_wF (ms_b h B t) h.length 0 6 (.int (nI n)) K = K (ms_b h (bk_spc B n) t) := by
  unfold ms_wF; rw [ms_fld_of ms_b_0 (show (bk_o h.length B)[6]? = some (.int (nI (bk_pc B))) from rfl)]
  show (True ∧ K _) = _
  rw [bk_put (B := B) 6 (.int (nI n)) (bk_spc B n) (fun _ => rfl) (fun _ => rfl), true_and]
theorem mb_f7 : ms_fldI (ms_b h B t) h.length 0 7 = some (nI (bk_ec B)) := ms_fldI_of ms_b_0 rfl
theorem mb_p7 {n : Nat} {K : ms_S → Prop} : ms_wF (ms_b h B t) h.length 0 7 (.int (nI n)) K = K (ms_b h (bk_sec B n) t) := by
  unfold ms_wF; rw [ms_fld_of ms_b_0 (show (bk_o h.length B)[7]? = some (.int (nI (bk_ec B))) from rfl)]
  show (True ∧ K _) = _
  rw [bk_put (B := B) 7 (.int (nI n)) (bk_sec B n) (fun _ => rfl) (fun _ => rfl), true_and]
theorem mb_f8 : ms_fldI (ms_b h B t) h.length 0 8 = some (nI (bk_xc B)) := ms_fldI_of ms_b_0 rfl
theorem mb_p8 {n : Nat} {K : ms_S → Prop} : ms_wF (ms_b h B t) h.length 0 8 (.int (nI n)) K = K (ms_b h (bk_sxc B n) t) := by
  unfold ms_wF; rw [ms_fld_of ms_b_0 (show (bk_o h.length B)[8]? = some (.int (nI (bk_xc B))) from rfl)]
  show (True ∧ K _) = _
  rw [bk_put (B := B) 8 (.int (nI n)) (bk_sxc B n) (fun _ => rfl) (fun _ => rfl), true_and]
theorem mb_e0 : ms_arr (ms_b h B t) (h.length + 1) = some (0, 48, .inl (bk_th B)) := by unfold ms_arr; rw [show (ms_b h B t)[h.length + 1]? = _ from ms_ga h _ 1]; rfl
theorem mb_r0 {i : Int32} {K : Int32 → Prop} : ms_rI (ms_b h B t) (h.length + 1) 0 i K = (vp_in i 48 ∧ K (bk_th B i.toNatClampNeg)) := by
  unfold ms_rI; rw [mb_e0]; rfl
theorem mb_w0 {i : Int32} {x : Int32} {K : ms_S → Prop} : ms_wI (ms_b h B t) (h.length + 1) i x K = (vp_in i 48 ∧ K (ms_b h (bk_uth B i.toNatClampNeg x) t)) := by
  unfold ms_wI; rw [mb_e0]
  show (_ ∧ K ((ms_b h B t).set (h.length + 1) _)) = _
  rw [bk_set (B := B) 1 (.inl (0, 48, .inl (upd (bk_th B) i.toNatClampNeg x))) (bk_uth B i.toNatClampNeg x) (fun _ => rfl) (Nat.le_of_ble_eq_true rfl)]
theorem mb_e1 : ms_arr (ms_b h B t) (h.length + 2) = some (0, 64, .inl (bk_pa B)) := by unfold ms_arr; rw [show (ms_b h B t)[h.length + 2]? = _ from ms_ga h _ 2]; rfl
theorem mb_r1 {i : Int32} {K : Int32 → Prop} : ms_rI (ms_b h B t) (h.length + 2) 0 i K = (vp_in i 64 ∧ K (bk_pa B i.toNatClampNeg)) := by
  unfold ms_rI; rw [mb_e1]; rfl
theorem mb_w1 {i : Int32} {x : Int32} {K : ms_S → Prop} : ms_wI (ms_b h B t) (h.length + 2) i x K = (vp_in i 64 ∧ K (ms_b h (bk_upa B i.toNatClampNeg x) t)) := by
  unfold ms_wI; rw [mb_e1]
  show (_ ∧ K ((ms_b h B t).set (h.length + 2) _)) = _
  rw [bk_set (B := B) 2 (.inl (0, 64, .inl (upd (bk_pa B) i.toNatClampNeg x))) (bk_upa B i.toNatClampNeg x) (fun _ => rfl) (Nat.le_of_ble_eq_true rfl)]
theorem mb_e2 : ms_arr (ms_b h B t) (h.length + 3) = some (0, 192, .inl (bk_li B)) := by unfold ms_arr; rw [show (ms_b h B t)[h.length + 3]? = _ from ms_ga h _ 3]; rfl
theorem mb_r2 {i : Int32} {K : Int32 → Prop} : ms_rI (ms_b h B t) (h.length + 3) 0 i K = (vp_in i 192 ∧ K (bk_li B i.toNatClampNeg)) := by
  unfold ms_rI; rw [mb_e2]; rfl
theorem mb_w2 {i : Int32} {x : Int32} {K : ms_S → Prop} : ms_wI (ms_b h B t) (h.length + 3) i x K = (vp_in i 192 ∧ K (ms_b h (bk_uli B i.toNatClampNeg x) t)) := by
  unfold ms_wI; rw [mb_e2]
  show (_ ∧ K ((ms_b h B t).set (h.length + 3) _)) = _
  rw [bk_set (B := B) 3 (.inl (0, 192, .inl (upd (bk_li B) i.toNatClampNeg x))) (bk_uli B i.toNatClampNeg x) (fun _ => rfl) (Nat.le_of_ble_eq_true rfl)]
theorem mb_e3 : ms_arr (ms_b h B t) (h.length + 4) = some (0, 960, .inl (bk_en B)) := by unfold ms_arr; rw [show (ms_b h B t)[h.length + 4]? = _ from ms_ga h _ 4]; rfl
theorem mb_r3 {i : Int32} {K : Int32 → Prop} : ms_rI (ms_b h B t) (h.length + 4) 0 i K = (vp_in i 960 ∧ K (bk_en B i.toNatClampNeg)) := by
  unfold ms_rI; rw [mb_e3]; rfl
theorem mb_w3 {i : Int32} {x : Int32} {K : ms_S → Prop} : ms_wI (ms_b h B t) (h.length + 4) i x K = (vp_in i 960 ∧ K (ms_b h (bk_uen B i.toNatClampNeg x) t)) := by
  unfold ms_wI; rw [mb_e3]
  show (_ ∧ K ((ms_b h B t).set (h.length + 4) _)) = _
  rw [bk_set (B := B) 4 (.inl (0, 960, .inl (upd (bk_en B) i.toNatClampNeg x))) (bk_uen B i.toNatClampNeg x) (fun _ => rfl) (Nat.le_of_ble_eq_true rfl)]
theorem mb_e4 : ms_arr (ms_b h B t) (h.length + 5) = some (3, 20, .inr (.inr (bk_tx B))) := by unfold ms_arr; rw [show (ms_b h B t)[h.length + 5]? = _ from ms_ga h _ 5]; rfl
theorem bk_utx_s {i : Nat} {x : Option Nat} : (ms_b h B t).set (h.length + 5) (.inl (3, 20, .inr (.inr (va_up (bk_tx B) i x)))) = ms_b h (bk_utx B i x) t := bk_set (B := B) 5 _ (bk_utx B i x) (fun _ => rfl) (Nat.le_of_ble_eq_true rfl)
end Bw
section Bw2
variable {d : Nat} {h t : ms_S} {B : bk_T}
def bk_addT (B : bk_T) (a b c e w u : Int32) : bk_T := bk_stc (bk_uth (bk_uth (bk_uth (bk_uth (bk_uth (bk_uth B (bk_tc B * 6) a) (bk_tc B * 6 + 1) b) (bk_tc B * 6 + 2) c) (bk_tc B * 6 + 3) e) (bk_tc B * 6 + 4) w) (bk_tc B * 6 + 5) u) (bk_tc B + 1)
theorem ms_nlt {a b : Nat} (ha : a < 2 ^ 31) (hb : b < 2 ^ 31) : (nI a < nI b) ↔ a < b := by
  rw [Int32.lt_iff_toInt_lt, nI_toInt ha, nI_toInt hb]
  omega
theorem cb_addThing {a b c e w u : Int32} (hn : bk_tc B < 8) : ms_Cl (d + 1) 16 [.ref h.length, .int a, .int b, .int c, .int e, .int w, .int u] (ms_b h B t) (some (.int (nI (bk_tc B)))) (ms_b h (bk_addT B a b c e w u) t) := by
  refine m_X0_addThing ms_b_l ms_b_t ⟨_, ms_b_0⟩ (b_X0_addThing_0 (Q := ms_lf _ _) ?_)
  simp only [ms_oI_e, ms_oR_e, mb_f0, mb_f5]
  refine ms_yes ((ms_nlt (b := 8) (by omega) (by decide)).mpr hn) ?_
  rw [show nI (bk_tc B) * 6 = nI (bk_tc B * 6) from nI_mul _ 6]
  rw [show nI (bk_tc B * 6) + 1 = nI (bk_tc B * 6 + 1) from ms_p1 1, show nI (bk_tc B * 6) + 2 = nI (bk_tc B * 6 + 2) from ms_p1 2, show nI (bk_tc B * 6) + 3 = nI (bk_tc B * 6 + 3) from ms_p1 3, show nI (bk_tc B * 6) + 4 = nI (bk_tc B * 6 + 4) from ms_p1 4, show nI (bk_tc B * 6) + 5 = nI (bk_tc B * 6 + 5) from ms_p1 5]
  simp only [ms_oI_e, ms_oR_e, mb_f0, mb_f5, mb_w0]
  rw [ms_nc (show bk_tc B * 6 < 2 ^ 31 by omega), ms_nc (show bk_tc B * 6 + 1 < 2 ^ 31 by omega), ms_nc (show bk_tc B * 6 + 2 < 2 ^ 31 by omega), ms_nc (show bk_tc B * 6 + 3 < 2 ^ 31 by omega), ms_nc (show bk_tc B * 6 + 4 < 2 ^ 31 by omega), ms_nc (show bk_tc B * 6 + 5 < 2 ^ 31 by omega)]
  refine ⟨ms_in (by omega) (by decide), ms_in (by omega) (by decide), ms_in (by omega) (by decide), ms_in (by omega) (by decide), ms_in (by omega) (by decide), ms_in (by omega) (by decide), ?_⟩
  rw [show ∀ n, nI n + 1 = nI (n + 1) from fun n => ms_p1 1]
  simp only [ms_oI_e, ms_oR_e, mb_f5, mb_p5]
  exact ⟨congrArg (fun x => some (Value.int x)) (ms_nI_m1 (n := bk_tc B)), rfl⟩
def bk_addP (B : bk_T) (a b c : Int32) : bk_T := bk_spc (bk_upa (bk_upa (bk_upa (bk_upa B (bk_pc B * 4) a) (bk_pc B * 4 + 1) b) (bk_pc B * 4 + 2) c) (bk_pc B * 4 + 3) 0) (bk_pc B + 1)
theorem cb_addPaper {a b c : Int32} (hn : bk_pc B < 16) : ms_Cl (d + 1) 17 [.ref h.length, .int a, .int b, .int c] (ms_b h B t) (some (.int (nI (bk_pc B)))) (ms_b h (bk_addP B a b c) t) := by
  refine m_X0_addPaper ms_b_l ms_b_t ⟨_, ms_b_0⟩ (b_X0_addPaper_0 (Q := ms_lf _ _) ?_)
  simp only [ms_oI_e, ms_oR_e, mb_f1, mb_f6]
  refine ms_yes ((ms_nlt (b := 16) (by omega) (by decide)).mpr hn) ?_
  rw [show nI (bk_pc B) * 4 = nI (bk_pc B * 4) from nI_mul _ 4]
  rw [show nI (bk_pc B * 4) + 0 = nI (bk_pc B * 4) from ms_p1 0, show nI (bk_pc B * 4) + 1 = nI (bk_pc B * 4 + 1) from ms_p1 1, show nI (bk_pc B * 4) + 2 = nI (bk_pc B * 4 + 2) from ms_p1 2, show nI (bk_pc B * 4) + 3 = nI (bk_pc B * 4 + 3) from ms_p1 3]
  simp only [ms_oI_e, ms_oR_e, mb_f1, mb_f6, mb_w1]
  rw [ms_nc (show bk_pc B * 4 < 2 ^ 31 by omega), ms_nc (show bk_pc B * 4 + 1 < 2 ^ 31 by omega), ms_nc (show bk_pc B * 4 + 2 < 2 ^ 31 by omega), ms_nc (show bk_pc B * 4 + 3 < 2 ^ 31 by omega)]
  refine ⟨ms_in (by omega) (by decide), ms_in (by omega) (by decide), ms_in (by omega) (by decide), ms_in (by omega) (by decide), ?_⟩
  rw [show ∀ n, nI n + 1 = nI (n + 1) from fun n => ms_p1 1]
  simp only [ms_oI_e, ms_oR_e, mb_f6, mb_p6]
  exact ⟨congrArg (fun x => some (Value.int x)) (ms_nI_m1 (n := bk_pc B)), rfl⟩
theorem cb_dropPapers : ms_Cl (d + 1) 2 [.ref h.length] (ms_b h B t) none (ms_b h (bk_sec (bk_spc B 0) 0) t) := by
  refine m_X0_dropPapers ms_b_l ms_b_t ⟨_, ms_b_0⟩ (b_X0_dropPapers_0 (Q := ms_lf _ _) ?_)
  rw [show (0 : Int32) = nI 0 from rfl]
  simp only [mb_p6, mb_p7]
  exact ⟨rfl, rfl⟩
def bk_addE (B : bk_T) (p : Nat) (th a b c e w : Int32) : bk_T := bk_sec (bk_upa (bk_uli (bk_uen (bk_uen (bk_uen (bk_uen (bk_uen (bk_uen (bk_uen (bk_uen B (bk_ec B * 8) (nI p)) (bk_ec B * 8 + 1) (bk_pa B (p * 4 + 3))) (bk_ec B * 8 + 2) th) (bk_ec B * 8 + 3) a) (bk_ec B * 8 + 4) b) (bk_ec B * 8 + 5) c) (bk_ec B * 8 + 6) e) (bk_ec B * 8 + 7) w) (p * 12 + (bk_pa B (p * 4 + 3)).toNatClampNeg) (nI (bk_ec B))) (p * 4 + 3) (bk_pa B (p * 4 + 3) + 1)) (bk_ec B + 1)
theorem cb_addEntry {p q : Nat} {th a b c e w : Int32} (w0 : bk_w B) (hp : p < bk_pc B) (hq : bk_pa B (p * 4 + 3) = nI q) (hq2 : q < 12) (hn : bk_ec B < 120) : ms_Cl (d + 4) 18 [.ref h.length, .int (nI p), .int th, .int a, .int b, .int c, .int e, .int w] (ms_b h B t) (some (.int (nI (bk_ec B)))) (ms_b h (bk_addE B p th a b c e w) t) := by
  have hpc := w0.2.1
  refine m_X0_addEntry ms_b_l ms_b_t ⟨_, ms_b_0⟩ (b_X0_addEntry_0 (Q := ms_lf _ _) ?_)
  refine ms_c1_i (c_hasPaper (ms_b_bk w0)) (ms_ifT (fun h1 => ?_) (fun _ => ?_))
  · rw [ms_ix_nI (by omega), decide_eq_true hp] at h1
    cases h1
  have hof : bk_of (bk_pc B) 4 (bk_pa B) (nI p) 3 = nI q := by
    unfold bk_of
    rw [ms_ix_nI (by omega), decide_eq_true hp, ms_nc (by omega)]
    exact hq
  refine ms_c1_i (c_hasRoomIn (ms_b_bk w0)) (ms_ifT (fun h1 => ?_) (fun _ => ?_))
  · unfold bk_room at h1
    rw [hof, decide_eq_true hn, decide_eq_false (fun z => by have := (ms_nle (a := 12) (by decide) (by omega)).mp z; omega)] at h1
    cases h1
  refine ms_c1_i (c_ofPaper (ms_b_bk w0)) ?_
  rw [hof]
  simp only [ms_oI_e, ms_oR_e, mb_f3, mb_f7]
  rw [show nI (bk_ec B) * 8 = nI (bk_ec B * 8) from nI_mul _ 8]
  rw [show nI (bk_ec B * 8) + 3 = nI (bk_ec B * 8 + 3) from ms_p1 3, show nI (bk_ec B * 8) + 0 = nI (bk_ec B * 8) from ms_p1 0, show nI (bk_ec B * 8) + 1 = nI (bk_ec B * 8 + 1) from ms_p1 1, show nI (bk_ec B * 8) + 2 = nI (bk_ec B * 8 + 2) from ms_p1 2, show nI (bk_ec B * 8) + 7 = nI (bk_ec B * 8 + 7) from ms_p1 7]
  rw [show nI (bk_ec B * 8 + 3) + 1 = nI (bk_ec B * 8 + 4) from ms_p1 1, show nI (bk_ec B * 8 + 3) + 2 = nI (bk_ec B * 8 + 5) from ms_p1 2, show nI (bk_ec B * 8 + 3) + 3 = nI (bk_ec B * 8 + 6) from ms_p1 3]
  rw [show nI p * 12 = nI (p * 12) from nI_mul _ 12, show nI p * 4 = nI (p * 4) from nI_mul _ 4, ms_p1, show nI (p * 4) + 3 = nI (p * 4 + 3) from ms_p1 3]
  simp only [ms_oI_e, ms_oR_e, mb_f1, mb_f2, mb_f3, mb_f7, mb_w1, mb_w2, mb_w3]
  rw [ms_nc (show bk_ec B * 8 < 2 ^ 31 by omega), ms_nc (show bk_ec B * 8 + 1 < 2 ^ 31 by omega), ms_nc (show bk_ec B * 8 + 2 < 2 ^ 31 by omega), ms_nc (show bk_ec B * 8 + 3 < 2 ^ 31 by omega), ms_nc (show bk_ec B * 8 + 4 < 2 ^ 31 by omega), ms_nc (show bk_ec B * 8 + 5 < 2 ^ 31 by omega), ms_nc (show bk_ec B * 8 + 6 < 2 ^ 31 by omega), ms_nc (show bk_ec B * 8 + 7 < 2 ^ 31 by omega), ms_nc (show p * 12 + q < 2 ^ 31 by omega), ms_nc (show p * 4 + 3 < 2 ^ 31 by omega)]
  refine ⟨ms_in (by omega) (by decide), ms_in (by omega) (by decide), ms_in (by omega) (by decide), ms_in (by omega) (by decide), ms_in (by omega) (by decide), ms_in (by omega) (by decide), ms_in (by omega) (by decide), ms_in (by omega) (by decide), ms_in (by omega) (by decide), ms_in (by omega) (by decide), ?_⟩
  rw [show nI q + 1 = nI (q + 1) from ms_p1 1, show ∀ n, nI n + 1 = nI (n + 1) from fun n => ms_p1 1]
  simp only [ms_oI_e, ms_oR_e, mb_f7, mb_p7, be_ec_en, be_ec_li, be_ec_pa, be_ec_ec, ms_nI_m1]
  unfold bk_addE
  rw [hq, ms_nc (show q < 2 ^ 31 by omega), show nI q + 1 = nI (q + 1) from ms_p1 1]
  exact ⟨rfl, rfl⟩
theorem cb_setField {k f : Nat} {x : Int32} (w0 : bk_w B) (hk : k < bk_ec B) (hf : f < 4) : ms_Cl (d + 2) 20 [.ref h.length, .int (nI k), .int (nI f), .int x] (ms_b h B t) none (ms_b h (bk_uen B (k * 8 + 3 + f) x) t) := by
  have hec := w0.2.2.1
  refine m_X0_setField ms_b_l ms_b_t ⟨_, ms_b_0⟩ (b_X0_setField_0 (Q := ms_lf _ _) ?_)
  refine ms_c1_i (c_hasEntry (ms_b_bk w0)) (ms_ifT (fun h1 => ?_) (fun _ => ?_))
  · rw [ms_ix_nI (by omega), decide_eq_true hk] at h1
    cases h1
  refine ms_no (fun z => absurd (ms_nI_0 (n := f) (by omega)) (Int32.not_le.mpr z)) (ms_no (fun z => by have := (ms_nle (a := 4) (by decide) (by omega)).mp z; omega) ?_)
  rw [show nI k * 8 = nI (k * 8) from nI_mul _ 8, show nI (k * 8) + 3 = nI (k * 8 + 3) from ms_p1 3, ms_p1]
  simp only [ms_oR_e, mb_f3, mb_w3]
  rw [ms_nc (by omega)]
  exact ⟨ms_in (by omega) (by decide), rfl, rfl⟩
end Bw2
