/-! Book.copyFrom; image and back of the class; written by wip/whole/mdl.py from h_cp.txt -/
def bk_sth (B : bk_T) (f : Nat → Int32) : bk_T := (B.1, B.2.1, B.2.2.1, B.2.2.2.1, f, B.2.2.2.2.2.1, B.2.2.2.2.2.2.1, B.2.2.2.2.2.2.2.1, B.2.2.2.2.2.2.2.2)
def bk_spa (B : bk_T) (f : Nat → Int32) : bk_T := (B.1, B.2.1, B.2.2.1, B.2.2.2.1, B.2.2.2.2.1, f, B.2.2.2.2.2.2.1, B.2.2.2.2.2.2.2.1, B.2.2.2.2.2.2.2.2)
def bk_sli (B : bk_T) (f : Nat → Int32) : bk_T := (B.1, B.2.1, B.2.2.1, B.2.2.2.1, B.2.2.2.2.1, B.2.2.2.2.2.1, f, B.2.2.2.2.2.2.2.1, B.2.2.2.2.2.2.2.2)
def bk_sen (B : bk_T) (f : Nat → Int32) : bk_T := (B.1, B.2.1, B.2.2.1, B.2.2.2.1, B.2.2.2.2.1, B.2.2.2.2.2.1, B.2.2.2.2.2.2.1, f, B.2.2.2.2.2.2.2.2)
def bk_stx (B : bk_T) (f : Nat → Option Nat) : bk_T := (B.1, B.2.1, B.2.2.1, B.2.2.2.1, B.2.2.2.2.1, B.2.2.2.2.2.1, B.2.2.2.2.2.2.1, B.2.2.2.2.2.2.2.1, f)
def bk_c4 (D S : bk_T) : bk_T := bk_sen (bk_sli (bk_spa (bk_sth D (va_cpy (bk_th S) (bk_th D) 0 0 48)) (va_cpy (bk_pa S) (bk_pa D) 0 0 64)) (va_cpy (bk_li S) (bk_li D) 0 0 192)) (va_cpy (bk_en S) (bk_en D) 0 0 960)
def bk_ct (D S : bk_T) (n : Nat) : Nat → Option Nat := fun i => if i < n then bk_tx S i else bk_tx D i
def bk_cp (D S : bk_T) : bk_T := bk_sxc (bk_sec (bk_spc (bk_stc (bk_stx (bk_c4 D S) (bk_ct D S 20)) (bk_tc S)) (bk_pc S)) (bk_ec S)) (bk_xc S)
section Hcp
variable {d b i j k n : Nat} {h t : ms_S} {D S : bk_T} {X Y : cx_T}
theorem gb1 : (ms_b h D t)[h.length + 1]? = some (.inl (0, 48, .inl (bk_th D))) := ms_ga h _ 1
theorem gb2 : (ms_b h D t)[h.length + 2]? = some (.inl (0, 64, .inl (bk_pa D))) := ms_ga h _ 2
theorem gb3 : (ms_b h D t)[h.length + 3]? = some (.inl (0, 192, .inl (bk_li D))) := ms_ga h _ 3
theorem gb4 : (ms_b h D t)[h.length + 4]? = some (.inl (0, 960, .inl (bk_en D))) := ms_ga h _ 4
theorem gb5 : (ms_b h D t)[h.length + 5]? = some (.inl (3, 20, .inr (.inr (bk_tx D)))) := ms_ga h _ 5
theorem c_cp (h0 : ∀ D, (ms_b h D t)[b]? = some (.inr (0, bk_o b S))) (h1 : ∀ D, (ms_b h D t)[b + 1]? = some (.inl (0, 48, .inl (bk_th S)))) (h2 : ∀ D, (ms_b h D t)[b + 2]? = some (.inl (0, 64, .inl (bk_pa S)))) (h3 : ∀ D, (ms_b h D t)[b + 3]? = some (.inl (0, 192, .inl (bk_li S)))) (h4 : ∀ D, (ms_b h D t)[b + 4]? = some (.inl (0, 960, .inl (bk_en S)))) (h5 : ∀ D, (ms_b h D t)[b + 5]? = some (.inl (3, 20, .inr (.inr (bk_tx S))))) (hT : ∀ D i a, i < 20 → bk_tx S i = some a → ∃ fx, (ms_b h D t)[a]? = some (.inr (7, fx))) : ms_Cl (d + 1) 1 [.ref h.length, .ref b] (ms_b h D t) none (ms_b h (bk_cp D S) t) := by
  refine m_X0_copyFrom ms_b_l ms_b_t ⟨_, ms_b_0⟩ (b_X0_copyFrom_0 (Q := ms_lf _ _) ?_)
  have len : ∀ {D a n f} {K : Int32 → Prop}, (ms_b h D t)[a]? = some (.inl (0, n, .inl f)) → K (nI n) → ms_aL (ms_b h D t) a K := fun h hk => ms_aL_i h rfl hk
  refine ms_oR_i (ms_fldR_of (h0 D) rfl) (ms_oR_i mb_f0 (ms_oR_i mb_f0 (len gb1 ?_)))
  refine ms_cp_i (h1 D) gb1 (by decide) (by decide) (by decide) (by decide) (by decide) ?_
  rw [show (0 : Int32).toNatClampNeg = 0 by decide, ms_nc (k := 48) (by decide), show (ms_b h D t).set (h.length + 1) (.inl (0, 48, .inl (va_cpy (bk_th S) (bk_th D) 0 0 48))) = ms_b h (bk_sth D (va_cpy (bk_th S) (bk_th D) 0 0 48)) t from bk_set (B := D) 1 _ _ (fun _ => rfl) (Nat.le_of_ble_eq_true rfl)]
  generalize hD1 : bk_sth D (va_cpy (bk_th S) (bk_th D) 0 0 48) = D1
  have p1 : bk_pa D1 = bk_pa D := by rw [← hD1]; rfl
  refine ms_oR_i (ms_fldR_of (h0 D1) rfl) (ms_oR_i mb_f1 (ms_oR_i mb_f1 (len gb2 ?_)))
  refine ms_cp_i (h2 D1) gb2 (by decide) (by decide) (by decide) (by decide) (by decide) ?_
  rw [show (0 : Int32).toNatClampNeg = 0 by decide, ms_nc (k := 64) (by decide), show (ms_b h D1 t).set (h.length + 2) (.inl (0, 64, .inl (va_cpy (bk_pa S) (bk_pa D1) 0 0 64))) = ms_b h (bk_spa D1 (va_cpy (bk_pa S) (bk_pa D1) 0 0 64)) t from bk_set (B := D1) 2 _ _ (fun _ => rfl) (Nat.le_of_ble_eq_true rfl)]
  generalize hD2 : bk_spa D1 (va_cpy (bk_pa S) (bk_pa D1) 0 0 64) = D2
  refine ms_oR_i (ms_fldR_of (h0 D2) rfl) (ms_oR_i mb_f2 (ms_oR_i mb_f2 (len gb3 ?_)))
  refine ms_cp_i (h3 D2) gb3 (by decide) (by decide) (by decide) (by decide) (by decide) ?_
  rw [show (0 : Int32).toNatClampNeg = 0 by decide, ms_nc (k := 192) (by decide), show (ms_b h D2 t).set (h.length + 3) (.inl (0, 192, .inl (va_cpy (bk_li S) (bk_li D2) 0 0 192))) = ms_b h (bk_sli D2 (va_cpy (bk_li S) (bk_li D2) 0 0 192)) t from bk_set (B := D2) 3 _ _ (fun _ => rfl) (Nat.le_of_ble_eq_true rfl)]
  generalize hD3 : bk_sli D2 (va_cpy (bk_li S) (bk_li D2) 0 0 192) = D3
  refine ms_oR_i (ms_fldR_of (h0 D3) rfl) (ms_oR_i mb_f3 (ms_oR_i mb_f3 (len gb4 ?_)))
  refine ms_cp_i (h4 D3) gb4 (by decide) (by decide) (by decide) (by decide) (by decide) ?_
  rw [show (0 : Int32).toNatClampNeg = 0 by decide, ms_nc (k := 960) (by decide), show (ms_b h D3 t).set (h.length + 4) (.inl (0, 960, .inl (va_cpy (bk_en S) (bk_en D3) 0 0 960))) = ms_b h (bk_sen D3 (va_cpy (bk_en S) (bk_en D3) 0 0 960)) t from bk_set (B := D3) 4 _ _ (fun _ => rfl) (Nat.le_of_ble_eq_true rfl)]
  generalize hD4 : bk_sen D3 (va_cpy (bk_en S) (bk_en D3) 0 0 960) = D4
  have e4 : D4 = bk_c4 D S := by rw [← hD4, ← hD3, ← hD2, ← hD1]; rfl
  suffices H : ∀ r j, j + r = 20 → ms_V cd_X0_copyFrom none 0 (ms_Cl d) (ms_lf none (ms_b h (bk_cp D S) t)) 74 [(0, .ref h.length), (1, .ref b), (2, .int (nI j))] [] (ms_b h (bk_stx D4 (bk_ct D S j)) t) by
    have := H 20 0 rfl
    rw [show bk_stx D4 (bk_ct D S 0) = D4 by rw [e4]; rfl] at this
    exact this
  rw [e4]
  intro r
  induction r with
  | zero =>
    intro j hj
    have e : j = 20 := by omega
    subst e
    refine b_X0_copyFrom_74 (ms_yes (by decide) (ms_oI_i (ms_fldI_of (h0 _) rfl) ?_))
    rw [mb_p5]
    refine ms_oI_i (ms_fldI_of (h0 _) rfl) ?_
    rw [mb_p6]
    refine ms_oI_i (ms_fldI_of (h0 _) rfl) ?_
    rw [mb_p7]
    refine ms_oI_i (ms_fldI_of (h0 _) rfl) ?_
    rw [mb_p8]
    exact ⟨rfl, rfl⟩
  | succ r ih =>
    intro j hj
    refine b_X0_copyFrom_74 (ms_no (fun z => by rw [show (20 : Int32) = nI 20 from rfl, ms_nle (by omega) (by omega)] at z; omega) (ms_oR_i mb_f4 (ms_oR_i (ms_fldR_of (h0 _) rfl) ?_)))
    have step : ∀ v, v = bk_tx S j → (ms_b h (bk_stx (bk_c4 D S) (bk_ct D S j)) t).set (h.length + 5) (.inl (3, 20, .inr (.inr (va_up (bk_ct D S j) j v)))) = ms_b h (bk_stx (bk_c4 D S) (bk_ct D S (j + 1))) t := by
      intro v hv
      have e : va_up (bk_ct D S j) j v = bk_ct D S (j + 1) := by
        funext i
        rw [hv]
        unfold va_up bk_ct
        by_cases hij : i = j
        · subst hij
          rw [if_pos rfl, if_pos (Nat.lt_succ_self _)]
        · rw [if_neg hij]
          by_cases h1 : i < j
          · rw [if_pos h1, if_pos (by omega)]
          · rw [if_neg h1, if_neg (by omega)]
      rw [e]
      exact bk_set (B := bk_stx (bk_c4 D S) (bk_ct D S j)) 5 _ _ (fun _ => rfl) (Nat.le_of_ble_eq_true rfl)
    refine ms_rA_i (h5 _) rfl (ms_in (by omega) (by decide)) ?_
    rw [ms_nc (by omega), show nI j + 1 = nI (j + 1) from ms_p1 1]
    cases hx : bk_tx S j with
    | none =>
      refine ms_wN_i gb5 rfl (ms_in (by omega) (by decide)) ?_
      rw [ms_nc (by omega)]
      have := ih (j + 1) (by omega)
      rw [← step none hx.symm] at this
      exact this
    | some a =>
      obtain ⟨fx, hfx⟩ := hT (bk_stx (bk_c4 D S) (bk_ct D S j)) j a (by omega) hx
      refine ms_wA_i gb5 hfx rfl (ms_in (by omega) (by decide)) ?_
      rw [ms_nc (by omega)]
      have := ih (j + 1) (by omega)
      rw [← step (some a) hx.symm] at this
      exact this
/-- a book's texts are Texts -/
def TO (t : ms_S) (B : bk_T) : Prop := ∀ i a, i < 20 → bk_tx B i = some a → 65 ≤ a ∧ ∃ fx, t[a - 65]? = some (.inr (7, fx))
theorem ms_x_at {a : Nat} (ha : 65 ≤ a) : (ms_x X t)[a]? = t[a - 65]? := by
  unfold ms_x
  rw [List.getElem?_append_right (show (cx_c X).length ≤ a from ha)]
  rfl
theorem TO_x {Y : cx_T} (h : TO t S) : ∀ i a, i < 20 → bk_tx S i = some a → ∃ fx, (ms_x Y t)[a]? = some (.inr (7, fx)) := fun i a hi ha => by
  obtain ⟨h1, fx, h2⟩ := h i a hi ha
  exact ⟨fx, by rw [ms_x_at h1]; exact h2⟩
theorem cp_51 (h : TO t (cx_b X 6)) : ms_Cl (d + 1) 1 [.ref 51, .ref 6] (ms_x X t) none (ms_x (cx_ub X 51 (bk_cp (cx_b X 51) (cx_b X 6))) t) := c_cp (h := (cx_c X).take 51) (t := (cx_c X).drop 57 ++ t) (fun _ => rfl) (fun _ => rfl) (fun _ => rfl) (fun _ => rfl) (fun _ => rfl) (fun _ => rfl) (fun D => TO_x (Y := cx_ub X 51 D) h)
theorem cp_57 (h : TO t (cx_b X 6)) : ms_Cl (d + 1) 1 [.ref 57, .ref 6] (ms_x X t) none (ms_x (cx_ub X 57 (bk_cp (cx_b X 57) (cx_b X 6))) t) := c_cp (h := (cx_c X).take 57) (t := (cx_c X).drop 63 ++ t) (fun _ => rfl) (fun _ => rfl) (fun _ => rfl) (fun _ => rfl) (fun _ => rfl) (fun _ => rfl) (fun D => TO_x (Y := cx_ub X 57 D) h)
theorem cp_34 (h : TO t (cx_b X 6)) : ms_Cl (d + 1) 1 [.ref 34, .ref 6] (ms_x X t) none (ms_x (cx_ub X 34 (bk_cp (cx_b X 34) (cx_b X 6))) t) := c_cp (h := (cx_c X).take 34) (t := (cx_c X).drop 40 ++ t) (fun _ => rfl) (fun _ => rfl) (fun _ => rfl) (fun _ => rfl) (fun _ => rfl) (fun _ => rfl) (fun D => TO_x (Y := cx_ub X 34 D) h)
theorem cp_6a (h : TO t (cx_b X 51)) : ms_Cl (d + 1) 1 [.ref 6, .ref 51] (ms_x X t) none (ms_x (cx_ub X 6 (bk_cp (cx_b X 6) (cx_b X 51))) t) := c_cp (h := (cx_c X).take 6) (t := (cx_c X).drop 12 ++ t) (fun _ => rfl) (fun _ => rfl) (fun _ => rfl) (fun _ => rfl) (fun _ => rfl) (fun _ => rfl) (fun D => TO_x (Y := cx_ub X 6 D) h)
theorem cp_6b (h : TO t (cx_b X 57)) : ms_Cl (d + 1) 1 [.ref 6, .ref 57] (ms_x X t) none (ms_x (cx_ub X 6 (bk_cp (cx_b X 6) (cx_b X 57))) t) := c_cp (h := (cx_c X).take 6) (t := (cx_c X).drop 12 ++ t) (fun _ => rfl) (fun _ => rfl) (fun _ => rfl) (fun _ => rfl) (fun _ => rfl) (fun _ => rfl) (fun D => TO_x (Y := cx_ub X 6 D) h)
end Hcp
