/-! WHAT A PROGRAM CHECKS OF AN INSTRUCTION'S ROW, and the contract of a method over the store -/
def ms_w (pl : Nat) : Option Jvm.Cond := (lw_tbl.drop (pl / 32 * 32))[pl % 32]?
theorem ms_w_mem {pl : Nat} {w : Jvm.Cond} (h : ms_w pl = some w) : w ∈ lw_tbl := List.mem_of_mem_drop (List.mem_of_getElem? h)
def ms_isw (pl : Nat) (w : Jvm.Cond) : Bool := decide (ms_w pl = some w) && ms_okw w
theorem ms_isw_ok {pl : Nat} {w : Jvm.Cond} {E : ms_E} {s : State} (h : ms_isw pl w = true) (he : ms_env E s) : w.before #[] s = true := by
  simp only [ms_isw, Bool.and_eq_true, decide_eq_true_eq] at h
  exact he.2.1 w (ms_w_mem h.1) h.2
theorem ms_isw_use {pl : Nat} {w : Jvm.Cond} {E : ms_E} {s : State} {args : Array Value} (h : ms_isw pl w = true) (he : ms_env E s) (hw : w.onTables = true) : w.before args s = true :=
  va_Nw.use hw (ms_isw_ok h he)
def ms_Y (y : Nat) : ms_Yi := (ms_Yl[y]?).getD (⟨"", "", ""⟩, ⟨#[]⟩, 0, none, 0, 0, 0)
def ms_rc (ret : Option FieldType) : Nat := match ret with
  | none => 0
  | some .long => 2
  | some (.object _) => 3
  | some (.array _) => 3
  | some _ => 1
def ms_okY (y : Nat) : Bool := match ms_Y y, (ms_Pl[y]?).getD (0, 0, 0, 0) with
  | (nm, _, maxL, ret, kind, n, ci), (_, pi, ps, pin) =>
    ms_isw pin (.initialized nm.cls) && decide (nm.cls ≠ "java/lang/invoke/MethodHandle" ∧ nm.cls ≠ "java/lang/invoke/VarHandle") && decide ((parseMethodDescriptor nm.desc).map (fun d => d.parameters.length) = some n) && Nat.ble maxL 42 &&
    (match kind with
     | 0 => ms_isw pi (.static nm)
     | 1 => ms_isw pi (.instanceMethod nm) && ms_isw ps (.selects nm.cls nm nm) && decide (ci = 99 ∨ (ci < 10 ∧ ms_R ci = nm.cls))
     | _ => ms_isw pi (.instanceMethod nm) && decide (nm.name = "<init>" ∧ ret = none))
set_option maxRecDepth 100000 in
theorem ms_okYs : (List.range 278).all ms_okY = true := by decide +kernel
theorem ms_okY_of {y : Nat} (h : y < 278) : ms_okY y = true := List.all_eq_true.mp ms_okYs y (List.mem_range.mpr h)
set_option maxRecDepth 100000 in
set_option maxHeartbeats 4000000 in
theorem ms_codes : ms_Pl.map (fun p => ms_w p.1) = ms_Yl.map (fun y => some (.code y.1 y.2.1 y.2.2.1 y.2.2.2.1)) := by rfl
/-- is it the link of the method, or of a nest mate's method -/
def ms_link (own : String) (idx pl : Nat) (nm : MethodName) : Bool := match ms_w pl with
  | some (.methodLink o i x) => decide (o = own ∧ i = idx ∧ x = nm)
  | some (.methodLinkNest o i x _) => decide (o = own ∧ i = idx ∧ x = nm)
  | _ => false
theorem ms_link_of {own : String} {idx pl : Nat} {nm : MethodName} (h : ms_link own idx pl nm = true) {E : ms_E} {s : State} (he : ms_env E s) {args : Array Value} : (Jvm.Cond.methodLink own idx nm).before args s = true ∨ ∃ host, va_Nw (.methodLinkNest own idx nm host) s := by
  unfold ms_link at h
  split at h
  · rename_i o i x hx
    simp only [decide_eq_true_eq] at h
    obtain ⟨rfl, rfl, rfl⟩ := h
    exact Or.inl (va_Nw.use rfl (he.2.1 _ (ms_w_mem hx) rfl))
  · rename_i o i x ho hx
    simp only [decide_eq_true_eq] at h
    obtain ⟨rfl, rfl, rfl⟩ := h
    exact Or.inr ⟨_, he.2.1 _ (ms_w_mem hx) rfl⟩
  · cases h
def ms_okI (own : String) (kind idx : Nat) (tg : List Nat) : Bool := match tg with
  | [y, k, n, rc, pl] => Nat.blt y 278 && Nat.beq k kind && Nat.beq k (ms_Y y).2.2.2.2.1 && Nat.beq n (ms_Y y).2.2.2.2.2.1 && Nat.beq rc (ms_rc (ms_Y y).2.2.2.1) && ms_link own idx pl (ms_Y y).1
  | [y, pl, pi, pc] => Nat.beq y 1000 && Nat.beq kind 2 && ms_isw pl (.methodLink own idx objectInit) && ms_isw pi (.instanceMethod objectInit) && ms_isw pc (.code objectInit ⟨#[0xb1]⟩ 1 none)
  | [y, pl, pn, ps, pi, _] => Nat.beq y 1001 && Nat.beq kind 0 && ms_isw pl (.methodLink own idx arraycopyName) && ms_isw pn (.native arraycopyName) && ms_isw ps (.static arraycopyName) && ms_isw pi (.initialized "java/lang/System")
  | [y, pl, psm, pn, pi, ps, pc] => Nat.beq y 1002 && Nat.beq kind 1 && ms_isw pl (.methodLink own idx ⟨"[I", "clone", "()Ljava/lang/Object;"⟩) && ms_isw psm (.sameMethod "[I" "java/lang/Object" "clone" "()Ljava/lang/Object;") && ms_isw pn (.native ⟨"java/lang/Object", "clone", "()Ljava/lang/Object;"⟩) && ms_isw pi (.instanceMethod ⟨"java/lang/Object", "clone", "()Ljava/lang/Object;"⟩) && ms_isw ps (.selects "[I" ⟨"[I", "clone", "()Ljava/lang/Object;"⟩ ⟨"java/lang/Object", "clone", "()Ljava/lang/Object;"⟩) && ms_isw pc (.castable "[I" "java/lang/Cloneable")
  | [y, pl, ps, pi, pc, _, _, _] => Nat.beq kind 0 && ms_isw pi (.initialized "java/lang/Math") && (match y with
    | 1003 => ms_isw pl (.methodLink own idx Lib.Math.max.name) && ms_isw ps (.static Lib.Math.max.name) && ms_isw pc (.code Lib.Math.max.name Lib.Math.max.code 2 (some .int))
    | 1004 => ms_isw pl (.methodLink own idx Lib.Math.min.name) && ms_isw ps (.static Lib.Math.min.name) && ms_isw pc (.code Lib.Math.min.name Lib.Math.min.code 2 (some .int))
    | 1005 => ms_isw pl (.methodLink own idx Lib.Math.abs.name) && ms_isw ps (.static Lib.Math.abs.name) && ms_isw pc (.code Lib.Math.abs.name Lib.Math.abs.code 1 (some .int))
    | 1006 => ms_isw pl (.methodLink own idx Lib.MathLoose.max_long.x) && ms_isw ps (.static Lib.MathLoose.max_long.x) && ms_isw pc (.code Lib.MathLoose.max_long.x Lib.MathLoose.max_long.code 4 (some .long))
    | 1007 => ms_isw pl (.methodLink own idx Lib.MathLoose.min_long.x) && ms_isw ps (.static Lib.MathLoose.min_long.x) && ms_isw pc (.code Lib.MathLoose.min_long.x Lib.MathLoose.min_long.code 4 (some .long))
    | _ => false)
  | _ => false
def ms_okF (own nm : String) (put : Bool) (idx : Nat) (tg : List Nat) : Bool := match tg with
  | [ci, k, pl] => Nat.blt ci 10 && Nat.blt k (ms_N ci) && ms_isw pl (.fieldLink own idx (ms_T ci k).1 (ms_T ci k).2.1 (ms_T ci k).2.2.1) && (!put || decide ((ms_T ci k).2.2.2 = false ∨ ((ms_T ci k).2.2.2 = true ∧ nm = "<init>" ∧ (ms_T ci k).1 = own)))
  | _ => false
def ms_okB (pc : Nat) (off : Int) (tg : List Nat) : Bool := match tg with
  | [t] => decide ((pc : Int) + off = (t : Int))
  | _ => false
def ms_okE (own nm : String) (nL : Nat) (e : ms_I) : Bool := match e with
  | (pc, i, len, tg, c, cl) => match i with
    | .iconst n => Nat.beq len 1 && decide (Int32.ofInt n = c)
    | .bipush n => Nat.beq len 2 && decide ((Int8.ofInt n).toInt32 = c)
    | .sipush n => Nat.beq len 3 && decide ((Int16.ofInt n).toInt32 = c)
    | .ldc i => Nat.beq len 2 && (match tg with | [pl] => ms_isw pl (.constant own i c) | [_, _] => decide (own = RX5 ∧ i = 133) | _ => false)
    | .ldc_w i => Nat.beq len 3 && (match tg with | [pl] => ms_isw pl (.constant own i c) | _ => false)
    | .ldc2_w i => Nat.beq len 3 && (match tg with | [pl] => ms_isw pl (.constantLong own i cl) | _ => false)
    | .lconst n => Nat.beq len 1 && decide (Int64.ofNat (n : Nat) = cl)
    | .iload _ => Nat.beq len 2
    | .lload _ => Nat.beq len 2
    | .aload _ => Nat.beq len 2
    | .istore k => Nat.beq len 2 && Nat.blt k nL
    | .lstore k => Nat.beq len 2 && Nat.blt (k + 1) nL
    | .astore k => Nat.beq len 2 && Nat.blt k nL
    | .istore_n k => Nat.beq len 1 && Nat.blt k.val nL
    | .lstore_n k => Nat.beq len 1 && Nat.blt (k.val + 1) nL
    | .astore_n k => Nat.beq len 1 && Nat.blt k.val nL
    | .iinc k n => Nat.beq len 3 && Nat.blt k nL && decide (Int32.ofInt n = c)
    | .getfield i => Nat.beq len 3 && ms_okF own nm false i tg
    | .putfield i => Nat.beq len 3 && ms_okF own nm true i tg
    | .newarray t => Nat.beq len 2 && (match tg with | [pl] => ms_isw pl (.arrayClass (newarray.typeOf t)) | _ => false)
    | .anewarray i => Nat.beq len 3 && (match tg with | [t, pl, po] => (Nat.beq t 3 && ms_isw pl (.classLink own i RX7) && ms_isw po (.arrayOver (.object RX7))) || (Nat.beq t 4 && ms_isw pl (.classLink own i RX0) && ms_isw po (.arrayOver (.object RX0))) | _ => false)
    | .new i => Nat.beq len 3 && (match tg with | [ci, pl, pi, pn] => Nat.blt ci 10 && ms_isw pl (.classLink own i (ms_R ci)) && ms_isw pi (.instantiable (ms_R ci) (ms_N ci)) && ms_isw pn (.initialized (ms_R ci)) | _ => false)
    | .checkcast i => Nat.beq len 3 && (match tg with | [pl] => ms_isw pl (.classLink own i "[I") | _ => false)
    | .goto o => Nat.beq len 3 && ms_okB pc o tg
    | .ifCond _ o => Nat.beq len 3 && ms_okB pc o tg
    | .if_icmp _ o => Nat.beq len 3 && ms_okB pc o tg
    | .ifnull o => Nat.beq len 3 && ms_okB pc o tg
    | .ifnonnull o => Nat.beq len 3 && ms_okB pc o tg
    | .tableswitch d lo hi offs => (match tg with
      | t :: r => decide ((pc : Int) + d = (t : Int) ∧ -1000 ≤ lo ∧ hi < 1000 ∧ hi = lo + (offs.size : Int) - 1 ∧ offs.toList.map (fun o => (pc : Int) + o) = r.map (fun q => Int.ofNat q)) && (List.range offs.size).all (fun j => decide ((Int32.ofInt (lo + (j : Nat))).toInt = lo + (j : Nat)))
      | _ => false)
    | .lookupswitch d ps => (match tg with
      | t :: r => decide ((pc : Int) + d = (t : Int) ∧ ps.toList.map (fun o => (pc : Int) + o.2) = r.map (fun q => Int.ofNat q)) && (ps.toList.zip (ps.toList.drop 1)).all (fun (a, next) => decide (a.1 < next.1)) && ps.toList.all (fun q => decide ((Int32.ofInt q.1).toInt = q.1))
      | _ => false)
    | .invokevirtual i => Nat.beq len 3 && ms_okI own 1 i tg
    | .invokespecial i => Nat.beq len 3 && ms_okI own 2 i tg
    | .invokestatic i => Nat.beq len 3 && ms_okI own 0 i tg
    | _ => Nat.beq len 1
def ms_recv (y : Nat) (as : List Value) (g : ms_S) : Prop := (ms_Y y).2.2.2.2.1 = 1 → (∃ (b : Nat) (fs As : List Value), as = .ref b :: As ∧ g[b]? = some (.inr ((ms_Y y).2.2.2.2.2.2, fs))) ∨ ∃ As : List Value, as = .retAddr 1 :: As ∧ (ms_Y y).1.cls = "java/lang/String"
def ms_Cl (d y : Nat) (as : List Value) (g : ms_S) (r : Option Value) (g' : ms_S) : Prop :=
  g.length ≤ g'.length ∧ ms_tot g ≤ ms_tot g' ∧ ms_recv y as g ∧ ∀ (E : ms_E) (l : Launch), Met l (ms_Y y).1 [.code (ms_Y y).1 (ms_Y y).2.1 (ms_Y y).2.2.1 (ms_Y y).2.2.2.1] ({ frames := d, cells := g'.length - g.length, slots := ms_tot g' - ms_tot g, locals := 61 * d }) (ms_Pc E as g) (ms_Qc E r g') (g'.length - g.length) (ms_tot g' - ms_tot g) (ms_fr E)
/-- the words of the classes -/
theorem ms_inX {ws : List Jvm.Cond} (h : ws.all (fun w => decide (w ∈ lw_tbl) && ms_okw w && w.onTables) = true) {E : ms_E} {s : State} (he : ms_env E s) {args : Array Value} : ∀ w ∈ ws, w.before args s = true := by
  intro w hw
  have h1 := List.all_eq_true.mp h w hw
  simp only [Bool.and_eq_true, decide_eq_true_eq] at h1
  exact va_Nw.use h1.2 (he.2.1 w h1.1.1 h1.1.2)
set_option maxRecDepth 100000 in
theorem ms_in0 : (u_ws RX0 TX0 9).all (fun w => decide (w ∈ lw_tbl) && ms_okw w && w.onTables) = true := by decide +kernel
set_option maxRecDepth 100000 in
theorem ms_in1 : (u_ws RX1 TX1 15).all (fun w => decide (w ∈ lw_tbl) && ms_okw w && w.onTables) = true := by decide +kernel
set_option maxRecDepth 100000 in
theorem ms_in2 : (u_ws RX2 TX2 3).all (fun w => decide (w ∈ lw_tbl) && ms_okw w && w.onTables) = true := by decide +kernel
set_option maxRecDepth 100000 in
theorem ms_in3 : (u_ws RX3 TX3 11).all (fun w => decide (w ∈ lw_tbl) && ms_okw w && w.onTables) = true := by decide +kernel
set_option maxRecDepth 100000 in
theorem ms_in4 : (u_ws RX4 TX4 4).all (fun w => decide (w ∈ lw_tbl) && ms_okw w && w.onTables) = true := by decide +kernel
set_option maxRecDepth 100000 in
theorem ms_in5 : (u_ws RX5 TX5 10).all (fun w => decide (w ∈ lw_tbl) && ms_okw w && w.onTables) = true := by decide +kernel
set_option maxRecDepth 100000 in
theorem ms_in6 : (u_ws RX6 TX6 2).all (fun w => decide (w ∈ lw_tbl) && ms_okw w && w.onTables) = true := by decide +kernel
set_option maxRecDepth 100000 in
theorem ms_in7 : (u_ws RX7 TX7 2).all (fun w => decide (w ∈ lw_tbl) && ms_okw w && w.onTables) = true := by decide +kernel
set_option maxRecDepth 100000 in
theorem ms_in8 : (u_ws RX8 TX8 13).all (fun w => decide (w ∈ lw_tbl) && ms_okw w && w.onTables) = true := by decide +kernel
set_option maxRecDepth 100000 in
theorem ms_in9 : (u_ws RX9 TX9 52).all (fun w => decide (w ∈ lw_tbl) && ms_okw w && w.onTables) = true := by decide +kernel
/-- all that is asked of a class -/
theorem ms_cls : ∀ ci, ci < 10 → vwCl[ci]? = some (ms_R ci, ms_T ci, ms_N ci) ∧ (u_ws (ms_R ci) (ms_T ci) (ms_N ci)).all (fun w => decide (w ∈ lw_tbl) && ms_okw w && w.onTables) = true ∧ (∀ k, k < ms_N ci → parseFieldDescriptor (ms_T ci k).2.2.1 = some (ms_ty ci k)) ∧ (∀ a, a < ms_N ci → ∀ b, b < ms_N ci → a ≠ b → (ms_T ci a).2.1 ≠ (ms_T ci b).2.1) := by
  intro ci h
  match ci, h with
  | 0, _ => exact ⟨rfl, ms_in0, tyX0_ok, nmX0⟩
  | 1, _ => exact ⟨rfl, ms_in1, tyX1_ok, nmX1⟩
  | 2, _ => exact ⟨rfl, ms_in2, tyX2_ok, nmX2⟩
  | 3, _ => exact ⟨rfl, ms_in3, tyX3_ok, nmX3⟩
  | 4, _ => exact ⟨rfl, ms_in4, tyX4_ok, nmX4⟩
  | 5, _ => exact ⟨rfl, ms_in5, tyX5_ok, nmX5⟩
  | 6, _ => exact ⟨rfl, ms_in6, tyX6_ok, nmX6⟩
  | 7, _ => exact ⟨rfl, ms_in7, tyX7_ok, nmX7⟩
  | 8, _ => exact ⟨rfl, ms_in8, tyX8_ok, nmX8⟩
  | 9, _ => exact ⟨rfl, ms_in9, tyX9_ok, nmX9⟩
  | n + 10, h => exact absurd h (by omega)
set_option maxRecDepth 100000 in
theorem ms_blanks : (List.range 10).all (fun ci => (List.range (ms_N ci)).all fun j => decide (defaultValue (ms_ty ci j) = vp_V (ms_blank ci) j)) = true := by decide +kernel
theorem ms_blank_ok {ci j : Nat} (h : ci < 10) (hj : j < ms_N ci) : defaultValue (ms_ty ci j) = vp_V (ms_blank ci) j := by
  have h1 := List.all_eq_true.mp ms_blanks ci (List.mem_range.mpr h)
  have h2 := List.all_eq_true.mp h1 j (List.mem_range.mpr hj)
  simpa using h2
theorem ms_blank_up (E : ms_E) (ci : Nat) : (ms_blank ci).map (ms_up E) = ms_blank ci := by
  unfold ms_blank
  rw [List.map_map]
  apply List.map_congr_left
  intro k _
  simp only [Function.comp]
  cases ms_ty ci k <;> rfl
theorem ms_blank_len (ci : Nat) : (ms_blank ci).length = ms_N ci := by simp [ms_blank]
theorem ms_okv_ok {E : ms_E} {ty : FieldType} {v : Value} (h : ms_okv ty v) : narrow ty (ms_up E v) = ms_up E v ∧ fits ty (ms_up E v) = true := by
  unfold ms_okv at h
  split at h
  · exact ⟨rfl, rfl⟩
  · rcases h with rfl | rfl <;> exact ⟨rfl, rfl⟩
  · exact ⟨rfl, rfl⟩
  · exact ⟨rfl, rfl⟩
  · exact ⟨rfl, rfl⟩
  · exact ⟨rfl, rfl⟩
  · exact ⟨rfl, rfl⟩
  · exact h.elim
theorem ms_tk_ok {n : Nat} : ∀ {acc st A rest : List Value}, ms_tk n acc st = some (A, rest) → ∃ pre : List Value, st = pre ++ rest ∧ A = pre.reverse ++ acc ∧ pre.length = n := by
  induction n with
  | zero =>
    intro acc st A rest h
    simp only [ms_tk, Option.some.injEq, Prod.mk.injEq] at h
    exact ⟨[], by simp [h.2], by simp [h.1], rfl⟩
  | succ n ih =>
    intro acc st A rest h
    cases st with
    | nil => cases h
    | cons v st =>
      simp only [ms_tk] at h
      obtain ⟨pre, h1, h2, h3⟩ := ih h
      exact ⟨v :: pre, by simp [h1], by simp [h2], by simp [h3]⟩
theorem ms_cats_sum (E : ms_E) (st : List Value) : ((st.map (ms_up E)).map fun v => v.category).sum = ms_cats st := by
  induction st with
  | nil => rfl
  | cons v r ih => simp only [List.map_cons, List.sum_cons, ms_cats, ih, ms_up_cat']
