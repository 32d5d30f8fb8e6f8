/-! THE SHORT MACHINE: a store is a list of cells (an object's number is its place), locals are a list, and 'ms_wi' says what must hold ahead of an instruction so that K holds behind it. 'ms_Cl d y as g r g2': method number y, called with as on the store g, answers r and leaves g2, within d frames. -/
abbrev ms_A : Type := (Nat → Int32) ⊕ (Nat → Int64) ⊕ (Nat → Option Nat)
abbrev ms_C : Type := (Nat × Nat × ms_A) ⊕ (Nat × List Value)
abbrev ms_S : Type := List ms_C
abbrev ms_L : Type := List (Nat × Value)
/-- an instruction: place, instruction, length, what it is turned to (targets; class and field; method ..), the int and the long that it puts -/
abbrev ms_I : Type := Nat × Instr × Nat × List Nat × Int32 × Int64
def ms_T : Nat → u_T := fun k => match k with
  | 0 => TX0 | 1 => TX1 | 2 => TX2 | 3 => TX3 | 4 => TX4 | 5 => TX5 | 6 => TX6 | 7 => TX7 | 8 => TX8 | _ => TX9
def ms_R : Nat → String := fun k => match k with
  | 0 => RX0 | 1 => RX1 | 2 => RX2 | 3 => RX3 | 4 => RX4 | 5 => RX5 | 6 => RX6 | 7 => RX7 | 8 => RX8 | _ => RX9
def ms_N : Nat → Nat := fun k => match k with
  | 0 => 9 | 1 => 15 | 2 => 3 | 3 => 11 | 4 => 4 | 5 => 10 | 6 => 2 | 7 => 2 | 8 => 13 | _ => 52
def ms_ty : Nat → Nat → FieldType := fun k => match k with
  | 0 => tyX0 | 1 => tyX1 | 2 => tyX2 | 3 => tyX3 | 4 => tyX4 | 5 => tyX5 | 6 => tyX6 | 7 => tyX7 | 8 => tyX8 | _ => tyX9
def ms_lget : ms_L → Nat → Option Value
  | [], _ => none
  | (j, v) :: r, k => bif Nat.beq j k then some v else ms_lget r k
def ms_ins (i : Nat) (v : Value) : ms_L → ms_L
  | [] => [(i, v)]
  | (j, w) :: r => bif Nat.ble i j then (i, v) :: (j, w) :: r else (j, w) :: ms_ins i v r
/-- the locals but i, and but a long whose second half i is (and, for a long put at i, but i + 1) -/
def ms_out (i : Nat) (two : Bool) : ms_L → ms_L
  | [] => []
  | (j, v) :: r => bif Nat.beq j i || (two && Nat.beq j (i + 1)) || (Nat.beq (j + 1) i && Nat.beq v.category 2) then ms_out i two r else (j, v) :: ms_out i two r
def ms_lset (l : ms_L) (i : Nat) (v : Value) : ms_L := ms_ins i v (ms_out i (Nat.beq v.category 2) l)
def ms_mem (k : Nat) : List Nat → Bool
  | [] => false
  | j :: r => bif Nat.beq j k then true else ms_mem k r
def ms_keep (ks : List Nat) : ms_L → ms_L
  | [] => []
  | (j, v) :: r => bif ms_mem j ks then (j, v) :: ms_keep ks r else ms_keep ks r
def ms_at : List ms_I → Nat → Option ms_I
  | [], _ => none
  | e :: r, pc => bif Nat.beq e.1 pc then some e else ms_at r pc
def ms_nth {α : Type} : List α → Nat → Option α
  | [], _ => none
  | a :: _, 0 => some a
  | _ :: r, k + 1 => ms_nth r k
/-- a method's instructions, sixteen places to a row -/
def ms_fetch (cd : List (List ms_I)) (pc : Nat) : Option ms_I := match ms_nth cd (pc / 16) with
  | some r => ms_at r pc
  | none => none
def ms_sz (c : ms_C) : Nat := match c with
  | .inl a => a.2.1
  | .inr o => o.2.length
def ms_tot : ms_S → Nat
  | [] => 0
  | c :: r => ms_sz c + ms_tot r
/-- reads of the store -/
def ms_fld (g : ms_S) (a ci k : Nat) : Option Value := match g[a]? with
  | some (.inr (cj, fs)) => bif Nat.beq ci cj then fs[k]? else none
  | _ => none
def ms_fldI (g : ms_S) (a ci k : Nat) : Option Int32 := match ms_fld g a ci k with
  | some (.int x) => some x
  | _ => none
def ms_fldL (g : ms_S) (a ci k : Nat) : Option Int64 := match ms_fld g a ci k with
  | some (.long x) => some x
  | _ => none
def ms_fldR (g : ms_S) (a ci k : Nat) : Option Nat := match ms_fld g a ci k with
  | some (.ref x) => some x
  | _ => none
def ms_arr (g : ms_S) (a : Nat) : Option (Nat × Nat × ms_A) := match g[a]? with
  | some (.inl x) => some x
  | _ => none
def ms_put (g : ms_S) (a k : Nat) (v : Value) : ms_S := match g[a]? with
  | some (.inr (ci, fs)) => g.set a (.inr (ci, fs.set k v))
  | _ => g
/-- may the value stand in a field of the type -/
def ms_okv (ty : FieldType) (v : Value) : Prop := match ty, v with
  | .int, .int _ => True
  | .boolean, .int x => x = 0 ∨ x = 1
  | .long, .long _ => True
  | .object _, .ref _ => True
  | .object _, .null => True
  | .array _, .ref _ => True
  | .array _, .null => True
  | _, _ => False
def ms_ik (ty : FieldType) : Nat := match ty with
  | .int => 1
  | .boolean => 1
  | .long => 2
  | .object _ => 3
  | .array _ => 3
  | _ => 0
def ms_cats : List Value → Nat
  | [] => 0
  | v :: r => v.category + ms_cats r
/-- what a call leaves, by the kind of its answer -/
def ms_res (rc : Nat) (T : Option Value → ms_S → Prop) (rest : List Value) (K : List Value → ms_S → Prop) : Prop := match rc with
  | 0 => ∃ g', T none g' ∧ K rest g'
  | 1 => ∃ (x : Int32) (g' : ms_S), T (some (.int x)) g' ∧ K (.int x :: rest) g'
  | 2 => ∃ (x : Int64) (g' : ms_S), T (some (.long x)) g' ∧ K (.long x :: rest) g'
  | _ => ∃ (r : Option Nat) (g' : ms_S), T (some (va_rf r)) g' ∧ match r with
    | none => K (.null :: rest) g'
    | some a => K (.ref a :: rest) g'
def ms_tk : Nat → List Value → List Value → Option (List Value × List Value)
  | 0, acc, st => some (acc, st)
  | _ + 1, _, [] => none
  | n + 1, acc, v :: st => ms_tk n (v :: acc) st
abbrev ms_TT : Type := Nat → List Value → ms_S → Option Value → ms_S → Prop
/-- a table switch: its first value, its targets, what is left -/
def ms_sw (x : Int32) (K : Nat → Prop) (d : Nat) : List (Int32 × Nat) → Prop
  | [] => K d
  | (v, t) :: r => if x = v then K t else ms_sw x K d r
def ms_call (T : ms_TT) (K : List Value → ms_S → Prop) (tg : List Nat) (st : List Value) (g : ms_S) : Prop := match tg with
  | y :: kind :: n :: rc :: _ => match ms_tk n [] st with
    | none => False
    | some (A, rest) => match kind with
      | 0 => bif Nat.ble (ms_cats rest) 8 then ms_res rc (fun r g' => T y A g r g') rest K else False
      | _ => match rest with
        | .ref b :: rest => bif Nat.ble (ms_cats rest) 8 then ms_res rc (fun r g' => T y (.ref b :: A) g r g') rest K else False
        | .retAddr 1 :: rest => bif Nat.beq kind 1 && Nat.ble (ms_cats rest) 8 then ms_res rc (fun r g' => T y (.retAddr 1 :: A) g r g') rest K else False
        | _ => False
  | _ => False
/-! the JDK's own: Object.<init>, System.arraycopy of ints, clone of an array of ints, Math.max, min, abs, max and min of longs -/
def ms_n0 (K : List Value → ms_S → Prop) (st : List Value) (g : ms_S) : Prop := match st with
  | .ref _ :: rest => bif Nat.ble (ms_cats rest) 8 then K rest g else False
  | _ => False
def ms_n1 (K : List Value → ms_S → Prop) (st : List Value) (g : ms_S) : Prop := match st with
  | .int n :: .int dp :: .ref b :: .int sp :: .ref a :: rest => bif Nat.ble (ms_cats rest) 8 then (match ms_arr g a, ms_arr g b with
    | some (0, na, .inl f), some (0, nb, .inl h) => ¬ sp < 0 ∧ ¬ dp < 0 ∧ ¬ n < 0 ∧ sp.toNatClampNeg + n.toNatClampNeg ≤ na ∧ dp.toNatClampNeg + n.toNatClampNeg ≤ nb ∧ K rest (g.set b (.inl (0, nb, .inl (va_cpy f h sp.toNatClampNeg dp.toNatClampNeg n.toNatClampNeg))))
    | _, _ => False) else False
  | _ => False
def ms_n2 (K : List Value → ms_S → Prop) (st : List Value) (g : ms_S) : Prop := match st with
  | .ref a :: rest => bif Nat.ble (ms_cats rest) 8 then (match ms_arr g a with
    | some (0, na, .inl f) => K (.ref g.length :: rest) (g ++ [.inl (0, na, .inl f)])
    | _ => False) else False
  | _ => False
def ms_n3 (K : List Value → ms_S → Prop) (st : List Value) (g : ms_S) : Prop := match st with
  | .int y :: .int x :: rest => bif Nat.ble (ms_cats rest) 8 then K (.int (if x < y then y else x) :: rest) g else False
  | _ => False
def ms_n4 (K : List Value → ms_S → Prop) (st : List Value) (g : ms_S) : Prop := match st with
  | .int y :: .int x :: rest => bif Nat.ble (ms_cats rest) 8 then K (.int (if y < x then y else x) :: rest) g else False
  | _ => False
def ms_n5 (K : List Value → ms_S → Prop) (st : List Value) (g : ms_S) : Prop := match st with
  | .int x :: rest => bif Nat.ble (ms_cats rest) 8 then K (.int (if 0 ≤ x then x else 0 - x) :: rest) g else False
  | _ => False
def ms_n6 (K : List Value → ms_S → Prop) (st : List Value) (g : ms_S) : Prop := match st with
  | .long y :: .long x :: rest => bif Nat.ble (ms_cats rest) 8 then K (.long (if y < x then x else y) :: rest) g else False
  | _ => False
def ms_n7 (K : List Value → ms_S → Prop) (st : List Value) (g : ms_S) : Prop := match st with
  | .long y :: .long x :: rest => bif Nat.ble (ms_cats rest) 8 then K (.long (if y < x then y else x) :: rest) g else False
  | _ => False
def ms_nat (K : List Value → ms_S → Prop) (which : Nat) (st : List Value) (g : ms_S) : Prop := match which with
  | 0 => ms_n0 K st g
  | 1 => ms_n1 K st g
  | 2 => ms_n2 K st g
  | 3 => ms_n3 K st g
  | 4 => ms_n4 K st g
  | 5 => ms_n5 K st g
  | 6 => ms_n6 K st g
  | _ => ms_n7 K st g
/-- an int comparison that branches -/
def ms_if (c : ClassFile.Cond) (x y : Int32) (kt kf : Prop) : Prop := match c with
  | .eq => if x = y then kt else kf
  | .ne => if x = y then kf else kt
  | .lt => if x < y then kt else kf
  | .ge => if y ≤ x then kt else kf
  | .gt => if y < x then kt else kf
  | .le => if x ≤ y then kt else kf
abbrev ms_K : Type := Nat → ms_L → List Value → ms_S → Prop
section
variable (X : Option (Nat × (Nat → Int32))) (rt : Nat) (ini : Bool) (T : ms_TT) (Q : Option Value → ms_S → Prop) (K : ms_K)
def ms_ld (kind k : Nat) (p : Nat) (ls : ms_L) (st : List Value) (g : ms_S) : Prop := match ms_lget ls k with
  | some (.int x) => (match kind with | 1 => K p ls (.int x :: st) g | _ => False)
  | some (.long x) => (match kind with | 2 => K p ls (.long x :: st) g | _ => False)
  | some (.ref x) => (match kind with | 3 => K p ls (.ref x :: st) g | _ => False)
  | some .null => (match kind with | 3 => K p ls (.null :: st) g | _ => False)
  | some (.retAddr x) => (match kind with | 3 => K p ls (.retAddr x :: st) g | _ => False)
  | _ => False
def ms_sto (kind k : Nat) (p : Nat) (ls : ms_L) (st : List Value) (g : ms_S) : Prop := match st with
  | .int x :: r => (match kind with | 1 => K p (ms_lset ls k (.int x)) r g | _ => False)
  | .long x :: r => (match kind with | 2 => K p (ms_lset ls k (.long x)) r g | _ => False)
  | .ref x :: r => (match kind with | 3 => K p (ms_lset ls k (.ref x)) r g | _ => False)
  | .null :: r => (match kind with | 3 => K p (ms_lset ls k .null) r g | _ => False)
  | _ => False
def ms_b2 (f : Int32 → Int32 → Int32) (p : Nat) (ls : ms_L) (st : List Value) (g : ms_S) : Prop := match st with
  | .int y :: .int x :: r => K p ls (.int (f x y) :: r) g
  | _ => False
def ms_l2 (f : Int64 → Int64 → Int64) (p : Nat) (ls : ms_L) (st : List Value) (g : ms_S) : Prop := match st with
  | .long y :: .long x :: r => K p ls (.long (f x y) :: r) g
  | _ => False
def ms_getf (tg : List Nat) (p : Nat) (ls : ms_L) (st : List Value) (g : ms_S) : Prop := match tg with
  | ci :: k :: _ => (match st with
    | .ref a :: r => (match ms_ik (ms_ty ci k) with
      | 1 => (match ms_fldI g a ci k with | some x => K p ls (.int x :: r) g | none => False)
      | 2 => (match ms_fldL g a ci k with | some x => K p ls (.long x :: r) g | none => False)
      | 3 => (match ms_fldR g a ci k with | some x => K p ls (.ref x :: r) g | none => False)
      | _ => False)
    | _ => False)
  | _ => False
def ms_putf (tg : List Nat) (p : Nat) (ls : ms_L) (st : List Value) (g : ms_S) : Prop := match tg with
  | ci :: k :: _ => (match st with
    | v :: .ref a :: r => (match ms_fld g a ci k with | some _ => ms_okv (ms_ty ci k) v ∧ K p ls r (ms_put g a k v) | none => False)
    | _ => False)
  | _ => False
def ms_ldi (ty : Nat) (p : Nat) (ls : ms_L) (st : List Value) (g : ms_S) : Prop := match st with
  | .int i :: .ref a :: r => (match ms_arr g a with
    | some (t, n, .inl f) => bif Nat.beq t ty then vp_in i n ∧ K p ls (.int (f i.toNatClampNeg) :: r) g else False
    | _ => False)
  | .int i :: .retAddr 0 :: r => (match ty, X with
    | 0, some x => vp_in i x.1 ∧ K p ls (.int (x.2 i.toNatClampNeg) :: r) g
    | _, _ => False)
  | _ => False
def ms_ldl (p : Nat) (ls : ms_L) (st : List Value) (g : ms_S) : Prop := match st with
  | .int i :: .ref a :: r => (match ms_arr g a with
    | some (1, n, .inr (.inl f)) => vp_in i n ∧ K p ls (.long (f i.toNatClampNeg) :: r) g
    | _ => False)
  | _ => False
def ms_lda (p : Nat) (ls : ms_L) (st : List Value) (g : ms_S) : Prop := match st with
  | .int i :: .ref a :: r => (match ms_arr g a with
    | some (t, n, .inr (.inr f)) => bif Nat.ble 3 t && Nat.ble t 4 then vp_in i n ∧ (match f i.toNatClampNeg with | some x => K p ls (.ref x :: r) g | none => K p ls (.null :: r) g) else False
    | _ => False)
  | _ => False
def ms_sti (p : Nat) (ls : ms_L) (st : List Value) (g : ms_S) : Prop := match st with
  | .int x :: .int i :: .ref a :: r => (match ms_arr g a with
    | some (0, n, .inl f) => vp_in i n ∧ K p ls r (g.set a (.inl (0, n, .inl (upd f i.toNatClampNeg x))))
    | _ => False)
  | _ => False
def ms_stb (p : Nat) (ls : ms_L) (st : List Value) (g : ms_S) : Prop := match st with
  | .int x :: .int i :: .ref a :: r => (match ms_arr g a with
    | some (2, n, .inl f) => vp_in i n ∧ (x = 0 ∨ x = 1) ∧ K p ls r (g.set a (.inl (2, n, .inl (upd f i.toNatClampNeg x))))
    | _ => False)
  | _ => False
def ms_stl (p : Nat) (ls : ms_L) (st : List Value) (g : ms_S) : Prop := match st with
  | .long x :: .int i :: .ref a :: r => (match ms_arr g a with
    | some (1, n, .inr (.inl f)) => vp_in i n ∧ K p ls r (g.set a (.inl (1, n, .inr (.inl (vp_updL f i.toNatClampNeg x)))))
    | _ => False)
  | _ => False
def ms_sta (p : Nat) (ls : ms_L) (st : List Value) (g : ms_S) : Prop := match st with
  | .ref x :: .int i :: .ref a :: r => (match ms_arr g a, g[x]? with
    | some (t, n, .inr (.inr f)), some (.inr (cx, _)) => bif (Nat.beq t 3 && Nat.beq cx 7) || (Nat.beq t 4 && Nat.beq cx 0) then vp_in i n ∧ K p ls r (g.set a (.inl (t, n, .inr (.inr (va_up f i.toNatClampNeg (some x)))))) else False
    | _, _ => False)
  | .null :: .int i :: .ref a :: r => (match ms_arr g a with
    | some (t, n, .inr (.inr f)) => bif Nat.ble 3 t && Nat.ble t 4 then vp_in i n ∧ K p ls r (g.set a (.inl (t, n, .inr (.inr (va_up f i.toNatClampNeg none))))) else False
    | _ => False)
  | _ => False
def ms_len (p : Nat) (ls : ms_L) (st : List Value) (g : ms_S) : Prop := match st with
  | .ref a :: r => (match ms_arr g a with
    | some x => bif Nat.ble x.1 4 then K p ls (.int (Int32.ofNat x.2.1) :: r) g else False
    | _ => False)
  | .retAddr 0 :: r => (match X with
    | some x => K p ls (.int (Int32.ofNat x.1) :: r) g
    | none => False)
  | _ => False
def ms_dflt (ty : FieldType) : Value := match ty with
  | .int => .int 0
  | .boolean => .int 0
  | .long => .long 0
  | _ => .null
def ms_blank (ci : Nat) : List Value := (List.range (ms_N ci)).map fun k => ms_dflt (ms_ty ci k)
def ms_newarr (t : ArrayType) (p : Nat) (ls : ms_L) (st : List Value) (g : ms_S) : Prop := match st with
  | .int n :: r => (match t with
    | .int => ¬ n < 0 ∧ n.toNatClampNeg ≤ 60000000 ∧ K p ls (.ref g.length :: r) (g ++ [.inl (0, n.toNatClampNeg, .inl (fun _ => 0))])
    | .boolean => ¬ n < 0 ∧ n.toNatClampNeg ≤ 60000000 ∧ K p ls (.ref g.length :: r) (g ++ [.inl (2, n.toNatClampNeg, .inl (fun _ => 0))])
    | .long => ¬ n < 0 ∧ n.toNatClampNeg ≤ 60000000 ∧ K p ls (.ref g.length :: r) (g ++ [.inl (1, n.toNatClampNeg, .inr (.inl (fun _ => 0)))])
    | _ => False)
  | _ => False
def ms_newq (tg : List Nat) (p : Nat) (ls : ms_L) (st : List Value) (g : ms_S) : Prop := match tg with
  | t :: _ => (match st with
    | .int n :: r => ¬ n < 0 ∧ n.toNatClampNeg ≤ 60000000 ∧ K p ls (.ref g.length :: r) (g ++ [.inl (t, n.toNatClampNeg, .inr (.inr (fun _ => none)))])
    | _ => False)
  | _ => False
def ms_goto (tg : List Nat) (ls : ms_L) (st : List Value) (g : ms_S) : Prop := match tg with
  | t :: _ => K t ls st g
  | _ => False
def ms_if1 (c : ClassFile.Cond) (tg : List Nat) (p : Nat) (ls : ms_L) (st : List Value) (g : ms_S) : Prop := match tg with
  | t :: _ => (match st with | .int x :: r => ms_if c x 0 (K t ls r g) (K p ls r g) | _ => False)
  | _ => False
def ms_if2 (c : ClassFile.Cond) (tg : List Nat) (p : Nat) (ls : ms_L) (st : List Value) (g : ms_S) : Prop := match tg with
  | t :: _ => (match st with | .int y :: .int x :: r => ms_if c x y (K t ls r g) (K p ls r g) | _ => False)
  | _ => False
def ms_ifn (nul : Bool) (tg : List Nat) (p : Nat) (ls : ms_L) (st : List Value) (g : ms_S) : Prop := match tg with
  | t :: _ => (match st with
    | .ref _ :: r => bif nul then K p ls r g else K t ls r g
    | .null :: r => bif nul then K t ls r g else K p ls r g
    | _ => False)
  | _ => False
def ms_invoke (p : Nat) (tg : List Nat) (ls : ms_L) (st : List Value) (g : ms_S) : Prop := match tg with
  | y :: r => bif Nat.ble 1000 y then ms_nat (fun st' g' => K p ls st' g') (y - 1000) st g else ms_call T (fun st' g' => K p ls st' g') (y :: r) st g
  | _ => False
def ms_swi (tg : List Nat) (lo : Int) (ls : ms_L) (st : List Value) (g : ms_S) : Prop := match tg with
  | d :: r => (match st with
    | .int x :: s => ms_sw x (fun t => K t ls s g) d ((List.range r.length).zip r |>.map fun q => (Int32.ofInt (lo + q.1), q.2))
    | _ => False)
  | _ => False
def ms_swl (tg : List Nat) (ks : List Int32) (ls : ms_L) (st : List Value) (g : ms_S) : Prop := match tg with
  | d :: r => (match st with
    | .int x :: s => ms_sw x (fun t => K t ls s g) d (ks.zip r)
    | _ => False)
  | _ => False
def ms_wi (e : ms_I) (ls : ms_L) (st : List Value) (g : ms_S) : Prop := match e with
  | (pc, i, len, tg, c, cl) => match i with
    | .aconst_null => K (pc + len) ls (.null :: st) g
    | .iconst _ => K (pc + len) ls (.int c :: st) g
    | .bipush _ => K (pc + len) ls (.int c :: st) g
    | .sipush _ => K (pc + len) ls (.int c :: st) g
    | .ldc _ => (match tg with | [_, _] => K (pc + len) ls (.retAddr 1 :: st) g | _ => K (pc + len) ls (.int c :: st) g)
    | .ldc_w _ => K (pc + len) ls (.int c :: st) g
    | .lconst _ => K (pc + len) ls (.long cl :: st) g
    | .ldc2_w _ => K (pc + len) ls (.long cl :: st) g
    | .iload k => ms_ld K 1 k (pc + len) ls st g
    | .iload_n k => ms_ld K 1 k.val (pc + len) ls st g
    | .lload k => ms_ld K 2 k (pc + len) ls st g
    | .lload_n k => ms_ld K 2 k.val (pc + len) ls st g
    | .aload k => ms_ld K 3 k (pc + len) ls st g
    | .aload_n k => ms_ld K 3 k.val (pc + len) ls st g
    | .istore k => ms_sto K 1 k (pc + len) ls st g
    | .istore_n k => ms_sto K 1 k.val (pc + len) ls st g
    | .lstore k => ms_sto K 2 k (pc + len) ls st g
    | .lstore_n k => ms_sto K 2 k.val (pc + len) ls st g
    | .astore k => ms_sto K 3 k (pc + len) ls st g
    | .astore_n k => ms_sto K 3 k.val (pc + len) ls st g
    | .iinc k _ => (match ms_lget ls k with | some (.int x) => K (pc + len) (ms_lset ls k (.int (x + c))) st g | _ => False)
    | .iadd => ms_b2 K (fun x y => x + y) (pc + len) ls st g
    | .isub => ms_b2 K (fun x y => x - y) (pc + len) ls st g
    | .imul => ms_b2 K (fun x y => x * y) (pc + len) ls st g
    | .iand => ms_b2 K (fun x y => x &&& y) (pc + len) ls st g
    | .ior => ms_b2 K (fun x y => x ||| y) (pc + len) ls st g
    | .ixor => ms_b2 K (fun x y => x ^^^ y) (pc + len) ls st g
    | .ishl => ms_b2 K (fun x y => x <<< (y &&& 31)) (pc + len) ls st g
    | .ishr => ms_b2 K (fun x y => x >>> (y &&& 31)) (pc + len) ls st g
    | .iushr => ms_b2 K (fun x y => (x.toUInt32 >>> (y.toUInt32 &&& Int32.toUInt32 31)).toInt32) (pc + len) ls st g
    | .idiv => (match st with | .int y :: .int x :: r => ¬ y = 0 ∧ K (pc + len) ls (.int (x / y) :: r) g | _ => False)
    | .irem => (match st with | .int y :: .int x :: r => ¬ y = 0 ∧ K (pc + len) ls (.int (x - x / y * y) :: r) g | _ => False)
    | .ineg => (match st with | .int x :: r => K (pc + len) ls (.int (-x) :: r) g | _ => False)
    | .ladd => ms_l2 K (fun x y => x + y) (pc + len) ls st g
    | .lsub => ms_l2 K (fun x y => x - y) (pc + len) ls st g
    | .lmul => ms_l2 K (fun x y => x * y) (pc + len) ls st g
    | .ldiv => (match st with | .long y :: .long x :: r => ¬ y = 0 ∧ K (pc + len) ls (.long (x / y) :: r) g | _ => False)
    | .lrem => (match st with | .long y :: .long x :: r => ¬ y = 0 ∧ K (pc + len) ls (.long (x - x / y * y) :: r) g | _ => False)
    | .lshl => (match st with | .int y :: .long x :: r => K (pc + len) ls (.long (x <<< (y.toInt64 &&& 63)) :: r) g | _ => False)
    | .lcmp => (match st with | .long y :: .long x :: r => K (pc + len) ls (.int (lg_cmp x y) :: r) g | _ => False)
    | .i2l => (match st with | .int x :: r => K (pc + len) ls (.long x.toInt64 :: r) g | _ => False)
    | .l2i => (match st with | .long x :: r => K (pc + len) ls (.int x.toInt32 :: r) g | _ => False)
    | .dup => (match st with | v :: r => (match v.category with | 1 => K (pc + len) ls (v :: v :: r) g | _ => False) | _ => False)
    | .pop => (match st with | v :: r => (match v.category with | 1 => K (pc + len) ls r g | _ => False) | _ => False)
    | .dup2 => (match st with
      | .long x :: r => K (pc + len) ls (.long x :: .long x :: r) g
      | v :: w :: r => (match v.category, w.category with | 1, 1 => K (pc + len) ls (v :: w :: v :: w :: r) g | _, _ => False)
      | _ => False)
    | .getfield _ => ms_getf K tg (pc + len) ls st g
    | .putfield _ => ms_putf K tg (pc + len) ls st g
    | .iaload => ms_ldi X K 0 (pc + len) ls st g
    | .baload => ms_ldi X K 2 (pc + len) ls st g
    | .laload => ms_ldl K (pc + len) ls st g
    | .aaload => ms_lda K (pc + len) ls st g
    | .iastore => ms_sti K (pc + len) ls st g
    | .bastore => ms_stb K (pc + len) ls st g
    | .lastore => ms_stl K (pc + len) ls st g
    | .aastore => ms_sta K (pc + len) ls st g
    | .arraylength => ms_len X K (pc + len) ls st g
    | .newarray t => ms_newarr K t (pc + len) ls st g
    | .anewarray _ => ms_newq K tg (pc + len) ls st g
    | .new _ => (match tg with | ci :: _ => K (pc + len) ls (.ref g.length :: st) (g ++ [.inr (ci, ms_blank ci)]) | _ => False)
    | .goto _ => ms_goto K tg ls st g
    | .ifCond c _ => ms_if1 K c tg (pc + len) ls st g
    | .if_icmp c _ => ms_if2 K c tg (pc + len) ls st g
    | .ifnull _ => ms_ifn K true tg (pc + len) ls st g
    | .ifnonnull _ => ms_ifn K false tg (pc + len) ls st g
    | .tableswitch _ lo _ _ => ms_swi K tg lo ls st g
    | .lookupswitch _ ps => ms_swl K tg (ps.toList.map fun q => Int32.ofInt q.1) ls st g
    | .checkcast _ => (match st with | .ref a :: r => (match ms_arr g a with | some (0, _, _) => K (pc + len) ls (.ref a :: r) g | _ => False) | _ => False)
    | .invokevirtual _ => ms_invoke T K (pc + len) tg ls st g
    | .invokespecial _ => ms_invoke T K (pc + len) tg ls st g
    | .invokestatic _ => ms_invoke T K (pc + len) tg ls st g
    | .ireturn => (match st with | [.int x] => (match rt with | 1 => Q (some (.int x)) g | 4 => (x = 0 ∨ x = 1) ∧ Q (some (.int x)) g | _ => False) | _ => False)
    | .lreturn => (match st with | [.long x] => (match rt with | 2 => Q (some (.long x)) g | _ => False) | _ => False)
    | .areturn => (match st with
      | [.ref a] => (match rt with | 3 => Q (some (.ref a)) g | _ => False)
      | [.null] => (match rt with | 3 => Q (some .null) g | _ => False)
      | _ => False)
    | .return_ => (match st with | [] => (match rt with | 0 => Q none g | _ => False) | _ => False)
    | _ => False
end
