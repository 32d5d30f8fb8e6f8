/-! THE WORDS OF THE TREES -/
def ms_oI (o : Option Int32) (k : Int32 → Prop) : Prop := match o with | some x => k x | none => False
def ms_oL (o : Option Int64) (k : Int64 → Prop) : Prop := match o with | some x => k x | none => False
def ms_oR (o : Option Nat) (k : Nat → Prop) : Prop := match o with | some x => k x | none => False
def ms_rI (g : ms_S) (a ty : Nat) (i : Int32) (k : Int32 → Prop) : Prop := match ms_arr g a with
  | some (t, n, .inl f) => bif Nat.beq t ty then vp_in i n ∧ k (f i.toNatClampNeg) else False
  | _ => False
def ms_rX (X : Nat × (Nat → Int32)) (i : Int32) (k : Int32 → Prop) : Prop := vp_in i X.1 ∧ k (X.2 i.toNatClampNeg)
def ms_aX (X : Nat × (Nat → Int32)) (k : Int32 → Prop) : Prop := k (Int32.ofNat X.1)
def ms_rL (g : ms_S) (a : Nat) (i : Int32) (k : Int64 → Prop) : Prop := match ms_arr g a with
  | some (1, n, .inr (.inl f)) => vp_in i n ∧ k (f i.toNatClampNeg)
  | _ => False
def ms_rA (g : ms_S) (a : Nat) (i : Int32) (kn : Prop) (k : Nat → Prop) : Prop := match ms_arr g a with
  | some (t, n, .inr (.inr f)) => bif Nat.ble 3 t && Nat.ble t 4 then vp_in i n ∧ (match f i.toNatClampNeg with | some x => k x | none => kn) else False
  | _ => False
def ms_wI (g : ms_S) (a : Nat) (i x : Int32) (k : ms_S → Prop) : Prop := match ms_arr g a with
  | some (0, n, .inl f) => vp_in i n ∧ k (g.set a (.inl (0, n, .inl (upd f i.toNatClampNeg x))))
  | _ => False
def ms_wB (g : ms_S) (a : Nat) (i x : Int32) (k : ms_S → Prop) : Prop := match ms_arr g a with
  | some (2, n, .inl f) => vp_in i n ∧ (x = 0 ∨ x = 1) ∧ k (g.set a (.inl (2, n, .inl (upd f i.toNatClampNeg x))))
  | _ => False
def ms_wL (g : ms_S) (a : Nat) (i : Int32) (x : Int64) (k : ms_S → Prop) : Prop := match ms_arr g a with
  | some (1, n, .inr (.inl f)) => vp_in i n ∧ k (g.set a (.inl (1, n, .inr (.inl (vp_updL f i.toNatClampNeg x)))))
  | _ => False
def ms_wA (g : ms_S) (a : Nat) (i : Int32) (x : Nat) (k : ms_S → Prop) : Prop := match ms_arr g a, g[x]? with
  | some (t, n, .inr (.inr f)), some (.inr (cx, _)) => bif (Nat.beq t 3 && Nat.beq cx 7) || (Nat.beq t 4 && Nat.beq cx 0) then vp_in i n ∧ k (g.set a (.inl (t, n, .inr (.inr (va_up f i.toNatClampNeg (some x)))))) else False
  | _, _ => False
def ms_wN (g : ms_S) (a : Nat) (i : Int32) (k : ms_S → Prop) : Prop := match ms_arr g a with
  | some (t, n, .inr (.inr f)) => bif Nat.ble 3 t && Nat.ble t 4 then vp_in i n ∧ k (g.set a (.inl (t, n, .inr (.inr (va_up f i.toNatClampNeg none))))) else False
  | _ => False
def ms_wF (g : ms_S) (a ci j : Nat) (v : Value) (k : ms_S → Prop) : Prop := match ms_fld g a ci j with
  | some _ => ms_okv (ms_ty ci j) v ∧ k (ms_put g a j v)
  | none => False
def ms_aL (g : ms_S) (a : Nat) (k : Int32 → Prop) : Prop := match ms_arr g a with
  | some x => bif Nat.ble x.1 4 then k (Int32.ofNat x.2.1) else False
  | _ => False
def ms_nI (g : ms_S) (n : Int32) (k : Nat → ms_S → Prop) : Prop := ¬ n < 0 ∧ n.toNatClampNeg ≤ 60000000 ∧ k g.length (g ++ [.inl (0, n.toNatClampNeg, .inl (fun _ => 0))])
def ms_nZ (g : ms_S) (n : Int32) (k : Nat → ms_S → Prop) : Prop := ¬ n < 0 ∧ n.toNatClampNeg ≤ 60000000 ∧ k g.length (g ++ [.inl (2, n.toNatClampNeg, .inl (fun _ => 0))])
def ms_nL (g : ms_S) (n : Int32) (k : Nat → ms_S → Prop) : Prop := ¬ n < 0 ∧ n.toNatClampNeg ≤ 60000000 ∧ k g.length (g ++ [.inl (1, n.toNatClampNeg, .inr (.inl (fun _ => 0)))])
def ms_nQ (g : ms_S) (t : Nat) (n : Int32) (k : Nat → ms_S → Prop) : Prop := ¬ n < 0 ∧ n.toNatClampNeg ≤ 60000000 ∧ k g.length (g ++ [.inl (t, n.toNatClampNeg, .inr (.inr (fun _ => none)))])
def ms_nO (g : ms_S) (ci : Nat) (k : Nat → ms_S → Prop) : Prop := k g.length (g ++ [.inr (ci, ms_blank ci)])
def ms_cA (g : ms_S) (a : Nat) (k : Prop) : Prop := match ms_arr g a with | some (0, _, _) => k | _ => False
def ms_cp (g : ms_S) (a : Nat) (sp : Int32) (b : Nat) (dp n : Int32) (k : ms_S → Prop) : Prop := match ms_arr g a, ms_arr g b with
  | some (0, na, .inl f), some (0, nb, .inl h) => ¬ sp < 0 ∧ ¬ dp < 0 ∧ ¬ n < 0 ∧ sp.toNatClampNeg + n.toNatClampNeg ≤ na ∧ dp.toNatClampNeg + n.toNatClampNeg ≤ nb ∧ k (g.set b (.inl (0, nb, .inl (va_cpy f h sp.toNatClampNeg dp.toNatClampNeg n.toNatClampNeg))))
  | _, _ => False
def ms_ck (g : ms_S) (a : Nat) (k : Nat → ms_S → Prop) : Prop := match ms_arr g a with
  | some (0, na, .inl f) => k g.length (g ++ [.inl (0, na, .inl f)])
  | _ => False
def ms_c0 (R : Option Value → ms_S → Prop) (k : ms_S → Prop) : Prop := ∃ g', R none g' ∧ k g'
def ms_c1 (R : Option Value → ms_S → Prop) (k : Int32 → ms_S → Prop) : Prop := ∃ (x : Int32) (g' : ms_S), R (some (.int x)) g' ∧ k x g'
def ms_c2 (R : Option Value → ms_S → Prop) (k : Int64 → ms_S → Prop) : Prop := ∃ (x : Int64) (g' : ms_S), R (some (.long x)) g' ∧ k x g'
def ms_c3 (R : Option Value → ms_S → Prop) (kn : ms_S → Prop) (k : Nat → ms_S → Prop) : Prop := ∃ (r : Option Nat) (g' : ms_S), R (some (va_rf r)) g' ∧ match r with
  | none => kn g'
  | some a => k a g'
/-! how they are met -/
theorem ms_oI_i {o : Option Int32} {k : Int32 → Prop} {x : Int32} (h : o = some x) (hk : k x) : ms_oI o k := by rw [h]; exact hk
theorem ms_oL_i {o : Option Int64} {k : Int64 → Prop} {x : Int64} (h : o = some x) (hk : k x) : ms_oL o k := by rw [h]; exact hk
theorem ms_oR_i {o : Option Nat} {k : Nat → Prop} {x : Nat} (h : o = some x) (hk : k x) : ms_oR o k := by rw [h]; exact hk
theorem ms_rI_i {g : ms_S} {a ty n : Nat} {i : Int32} {k : Int32 → Prop} {f : Nat → Int32} (h : g[a]? = some (.inl (ty, n, .inl f))) (hi : vp_in i n) (hk : k (f i.toNatClampNeg)) : ms_rI g a ty i k := by
  have h1 : ms_arr g a = some (ty, n, .inl f) := by unfold ms_arr; rw [h]
  unfold ms_rI
  rw [h1]
  simp only [Nat.beq_refl, cond_true]
  exact ⟨hi, hk⟩
theorem ms_rL_i {g : ms_S} {a n : Nat} {i : Int32} {k : Int64 → Prop} {f : Nat → Int64} (h : g[a]? = some (.inl (1, n, .inr (.inl f)))) (hi : vp_in i n) (hk : k (f i.toNatClampNeg)) : ms_rL g a i k := by
  have h1 : ms_arr g a = some (1, n, .inr (.inl f)) := by unfold ms_arr; rw [h]
  unfold ms_rL
  rw [h1]
  exact ⟨hi, hk⟩
theorem ms_rA_i {g : ms_S} {a n t : Nat} {i : Int32} {kn : Prop} {k : Nat → Prop} {f : Nat → Option Nat} (h : g[a]? = some (.inl (t, n, .inr (.inr f)))) (ht : (Nat.ble 3 t && Nat.ble t 4) = true) (hi : vp_in i n) (hk : match f i.toNatClampNeg with | some x => k x | none => kn) : ms_rA g a i kn k := by
  have h1 : ms_arr g a = some (t, n, .inr (.inr f)) := by unfold ms_arr; rw [h]
  unfold ms_rA
  rw [h1]
  simp only [ht, cond_true]
  exact ⟨hi, hk⟩
theorem ms_wI_i {g : ms_S} {a n : Nat} {i x : Int32} {k : ms_S → Prop} {f : Nat → Int32} (h : g[a]? = some (.inl (0, n, .inl f))) (hi : vp_in i n) (hk : k (g.set a (.inl (0, n, .inl (upd f i.toNatClampNeg x))))) : ms_wI g a i x k := by
  have h1 : ms_arr g a = some (0, n, .inl f) := by unfold ms_arr; rw [h]
  unfold ms_wI
  rw [h1]
  exact ⟨hi, hk⟩
theorem ms_wB_i {g : ms_S} {a n : Nat} {i x : Int32} {k : ms_S → Prop} {f : Nat → Int32} (h : g[a]? = some (.inl (2, n, .inl f))) (hi : vp_in i n) (hx : x = 0 ∨ x = 1) (hk : k (g.set a (.inl (2, n, .inl (upd f i.toNatClampNeg x))))) : ms_wB g a i x k := by
  have h1 : ms_arr g a = some (2, n, .inl f) := by unfold ms_arr; rw [h]
  unfold ms_wB
  rw [h1]
  exact ⟨hi, hx, hk⟩
theorem ms_wL_i {g : ms_S} {a n : Nat} {i : Int32} {x : Int64} {k : ms_S → Prop} {f : Nat → Int64} (h : g[a]? = some (.inl (1, n, .inr (.inl f)))) (hi : vp_in i n) (hk : k (g.set a (.inl (1, n, .inr (.inl (vp_updL f i.toNatClampNeg x)))))) : ms_wL g a i x k := by
  have h1 : ms_arr g a = some (1, n, .inr (.inl f)) := by unfold ms_arr; rw [h]
  unfold ms_wL
  rw [h1]
  exact ⟨hi, hk⟩
theorem ms_wA_i {g : ms_S} {a n t x cx : Nat} {fx : List Value} {i : Int32} {k : ms_S → Prop} {f : Nat → Option Nat} (h : g[a]? = some (.inl (t, n, .inr (.inr f)))) (hx : g[x]? = some (.inr (cx, fx))) (ht : ((Nat.beq t 3 && Nat.beq cx 7) || (Nat.beq t 4 && Nat.beq cx 0)) = true) (hi : vp_in i n) (hk : k (g.set a (.inl (t, n, .inr (.inr (va_up f i.toNatClampNeg (some x))))))) : ms_wA g a i x k := by
  have h1 : ms_arr g a = some (t, n, .inr (.inr f)) := by unfold ms_arr; rw [h]
  unfold ms_wA
  rw [h1, hx]
  simp only [ht, cond_true]
  exact ⟨hi, hk⟩
theorem ms_wN_i {g : ms_S} {a n t : Nat} {i : Int32} {k : ms_S → Prop} {f : Nat → Option Nat} (h : g[a]? = some (.inl (t, n, .inr (.inr f)))) (ht : (Nat.ble 3 t && Nat.ble t 4) = true) (hi : vp_in i n) (hk : k (g.set a (.inl (t, n, .inr (.inr (va_up f i.toNatClampNeg none)))))) : ms_wN g a i k := by
  have h1 : ms_arr g a = some (t, n, .inr (.inr f)) := by unfold ms_arr; rw [h]
  unfold ms_wN
  rw [h1]
  simp only [ht, cond_true]
  exact ⟨hi, hk⟩
theorem ms_fld_of {g : ms_S} {a ci k : Nat} {fs : List Value} {v : Value} (h : g[a]? = some (.inr (ci, fs))) (hk : fs[k]? = some v) : ms_fld g a ci k = some v := by
  unfold ms_fld
  rw [h]
  simp only [Nat.beq_refl, cond_true]
  exact hk
theorem ms_fldI_of {g : ms_S} {a ci k : Nat} {fs : List Value} {x : Int32} (h : g[a]? = some (.inr (ci, fs))) (hk : fs[k]? = some (.int x)) : ms_fldI g a ci k = some x := by unfold ms_fldI; rw [ms_fld_of h hk]
theorem ms_fldL_of {g : ms_S} {a ci k : Nat} {fs : List Value} {x : Int64} (h : g[a]? = some (.inr (ci, fs))) (hk : fs[k]? = some (.long x)) : ms_fldL g a ci k = some x := by unfold ms_fldL; rw [ms_fld_of h hk]
theorem ms_fldR_of {g : ms_S} {a ci k : Nat} {fs : List Value} {x : Nat} (h : g[a]? = some (.inr (ci, fs))) (hk : fs[k]? = some (.ref x)) : ms_fldR g a ci k = some x := by unfold ms_fldR; rw [ms_fld_of h hk]
theorem ms_wF_i {g : ms_S} {a ci j : Nat} {v v0 : Value} {fs : List Value} {k : ms_S → Prop} (h : g[a]? = some (.inr (ci, fs))) (hj : fs[j]? = some v0) (hv : ms_okv (ms_ty ci j) v) (hk : k (g.set a (.inr (ci, fs.set j v)))) : ms_wF g a ci j v k := by
  unfold ms_wF
  rw [ms_fld_of h hj]
  have : ms_put g a j v = g.set a (.inr (ci, fs.set j v)) := by unfold ms_put; rw [h]
  rw [this]
  exact ⟨hv, hk⟩
theorem ms_aL_i {g : ms_S} {a t n : Nat} {A : ms_A} {k : Int32 → Prop} (h : g[a]? = some (.inl (t, n, A))) (ht : Nat.ble t 4 = true) (hk : k (Int32.ofNat n)) : ms_aL g a k := by
  have h1 : ms_arr g a = some (t, n, A) := by unfold ms_arr; rw [h]
  unfold ms_aL
  rw [h1]
  simp only [ht, cond_true]
  exact hk
theorem ms_cp_i {g : ms_S} {a b na nb : Nat} {f h : Nat → Int32} {sp dp n : Int32} {k : ms_S → Prop} (ha : g[a]? = some (.inl (0, na, .inl f))) (hb : g[b]? = some (.inl (0, nb, .inl h))) (h1 : ¬ sp < 0) (h2 : ¬ dp < 0) (h3 : ¬ n < 0) (h4 : sp.toNatClampNeg + n.toNatClampNeg ≤ na) (h5 : dp.toNatClampNeg + n.toNatClampNeg ≤ nb) (hk : k (g.set b (.inl (0, nb, .inl (va_cpy f h sp.toNatClampNeg dp.toNatClampNeg n.toNatClampNeg))))) : ms_cp g a sp b dp n k := by
  have e1 : ms_arr g a = some (0, na, .inl f) := by unfold ms_arr; rw [ha]
  have e2 : ms_arr g b = some (0, nb, .inl h) := by unfold ms_arr; rw [hb]
  unfold ms_cp
  rw [e1, e2]
  exact ⟨h1, h2, h3, h4, h5, hk⟩
theorem ms_ck_i {g : ms_S} {a na : Nat} {f : Nat → Int32} {k : Nat → ms_S → Prop} (ha : g[a]? = some (.inl (0, na, .inl f))) (hk : k g.length (g ++ [.inl (0, na, .inl f)])) : ms_ck g a k := by
  have e1 : ms_arr g a = some (0, na, .inl f) := by unfold ms_arr; rw [ha]
  unfold ms_ck
  rw [e1]
  exact hk
theorem ms_cA_i {g : ms_S} {a na : Nat} {A : ms_A} {k : Prop} (ha : g[a]? = some (.inl (0, na, A))) (hk : k) : ms_cA g a k := by
  have e1 : ms_arr g a = some (0, na, A) := by unfold ms_arr; rw [ha]
  unfold ms_cA
  rw [e1]
  exact hk
