/-! THE SHORT MACHINE IS SOUND: what holds by 'ms_wi' of an instruction holds of the machine -/
def ms_Ctx (p : Program) (R : Room) (s : State) (m : MethodId) (meth : Method) (c : Code) (E : ms_E) (cc : ByteArray) (own nm : String) (nL N0 d : Nat) : Prop :=
  p.tables.exec = Jvm.exec ∧ c.code = cc ∧ c.maxLocals = nL ∧ s.vm.findClass own = some m.cls ∧ (nm = "<init>" → meth.name = "<init>") ∧ ms_env E s ∧ s.heap.size = E.2.2.1 + N0 ∧ d + 1 ≤ R.frames ∧ 61 * (d + 1) ≤ R.locals
def ms_P (p : Program) (l : Launch) (e : Env) (R : Room) (s : State) (m : MethodId) (args : Array Value) (below : List Frame) (meth : Method) (c : Code) (Qw : State → Prop) (E : ms_E) (nL N0 T0 : Nat) : ms_K := fun pc ls st g =>
  N0 ≤ g.length → T0 ≤ ms_tot g → g.length ≤ N0 + R.cells ∧ ms_tot g ≤ T0 + R.slots ∧ ∀ (H : Heap) (locs : List Loc) (arr : Array Slot), lv_has arr nL (ms_ul E ls) → ms_H E g H → (∀ q ∈ locs, E.2.2.1 ≤ q.base) → W p l e R s m args below meth c H locs (g.length - N0) (ms_tot g - T0) Qw (F0 m pc arr (st.map (ms_up E)))
section Snd
variable {p : Program} {l : Launch} {e : Env} {R : Room} {s : State} {m : MethodId} {args : Array Value} {below : List Frame} {meth : Method} {c : Code} {Qw : State → Prop} {E : ms_E} {cc : ByteArray} {own nm : String} {nL N0 T0 d : Nat}
variable {pc pc' : Nat} {ls ls' : ms_L} {st st' : List Value} {g g' : ms_S}
/-- nothing of the store is touched -/
theorem ms_pure (h : ms_P p l e R s m args below meth c Qw E nL N0 T0 pc' ls' st' g)
    (k : ∀ (H : Heap) (locs : List Loc) (arr : Array Slot), lv_has arr nL (ms_ul E ls) → ms_H E g H → (∀ q ∈ locs, E.2.2.1 ≤ q.base) → (∀ arr' : Array Slot, lv_has arr' nL (ms_ul E ls') → W p l e R s m args below meth c H locs (g.length - N0) (ms_tot g - T0) Qw (F0 m pc' arr' (st'.map (ms_up E)))) → W p l e R s m args below meth c H locs (g.length - N0) (ms_tot g - T0) Qw (F0 m pc arr (st.map (ms_up E)))) :
    ms_P p l e R s m args below meth c Qw E nL N0 T0 pc ls st g := by
  intro h1 h2
  obtain ⟨a, b, w⟩ := h h1 h2
  exact ⟨a, b, fun H locs arr ha hH hL => k H locs arr ha hH hL fun arr' ha' => w H locs arr' ha' hH hL⟩
/-- the same locals -/
theorem ms_pure' (h : ms_P p l e R s m args below meth c Qw E nL N0 T0 pc' ls st' g)
    (k : ∀ (H : Heap) (locs : List Loc) (arr : Array Slot), lv_has arr nL (ms_ul E ls) → ms_H E g H → (∀ q ∈ locs, E.2.2.1 ≤ q.base) → W p l e R s m args below meth c H locs (g.length - N0) (ms_tot g - T0) Qw (F0 m pc' arr (st'.map (ms_up E))) → W p l e R s m args below meth c H locs (g.length - N0) (ms_tot g - T0) Qw (F0 m pc arr (st.map (ms_up E)))) :
    ms_P p l e R s m args below meth c Qw E nL N0 T0 pc ls st g :=
  ms_pure h fun H locs arr ha hH hL kk => k H locs arr ha hH hL (kk arr ha)
theorem ms_P.weaken (h : ms_P p l e R s m args below meth c Qw E nL N0 T0 pc ls' st g) (hs : ∀ q ∈ ls', q ∈ ls) : ms_P p l e R s m args below meth c Qw E nL N0 T0 pc ls st g :=
  ms_pure h fun H locs arr ha hH hL kk => kk arr ⟨ha.1, ha.2.1, fun q hq => by
    obtain ⟨q0, h0, rfl⟩ := List.mem_map.mp hq
    exact ha.2.2 _ (List.mem_map.mpr ⟨q0, hs q0 h0, rfl⟩)⟩
theorem ms_bd {H : Heap} {locs : List Loc} {cells slots : Nat} {gf : JFrame} (k : H.size ≤ s.heap.size + cells → W p l e R s m args below meth c H locs cells slots Qw gf) : W p l e R s m args below meth c H locs cells slots Qw gf := fun T hT X => k (by rw [← hT]; exact X.heapSize) T hT X
/-- a cell is written -/
theorem ms_wrote (hz : s.heap.size = E.2.2.1 + N0) (hb : E.2.2.2.1.size = E.2.2.1) (hg : g'.length = g.length) (ht : ms_tot g' = ms_tot g) (h : ms_P p l e R s m args below meth c Qw E nL N0 T0 pc' ls st' g')
    (k : ∀ (H : Heap) (locs : List Loc) (arr : Array Slot), lv_has arr nL (ms_ul E ls) → ms_H E g H → (∀ q ∈ locs, E.2.2.1 ≤ q.base) → (∀ (H1 : Heap) (locs1 : List Loc), va_P E.1 vwCl (ms_cc E g') H1 → va_S (ms_fr E) E.2.2.2.1 H1 locs1 → W p l e R s m args below meth c H1 locs1 (g.length - N0) (ms_tot g - T0) Qw (F0 m pc' arr (st'.map (ms_up E)))) → W p l e R s m args below meth c H locs (g.length - N0) (ms_tot g - T0) Qw (F0 m pc arr (st.map (ms_up E)))) :
    ms_P p l e R s m args below meth c Qw E nL N0 T0 pc ls st g := by
  intro h1 h2
  obtain ⟨a, b, w⟩ := h (by rw [hg]; exact h1) (by rw [ht]; exact h2)
  rw [hg] at a w; rw [ht] at b w
  refine ⟨a, b, fun H locs arr ha hH hL => k H locs arr ha hH hL fun H1 locs1 hP hS => ms_bd fun hz1 => ?_⟩
  exact w H1 locs1 arr ha (ms_H.of hb hP hS (by rw [hg]; omega)) (fun q hq => hS.2.2 q hq)
/-- a cell is made -/
theorem ms_made (hz : s.heap.size = E.2.2.1 + N0) (hb : E.2.2.2.1.size = E.2.2.1) {cl : ms_C} {sz : Nat} (hsz : ms_sz cl = sz) (h : ms_P p l e R s m args below meth c Qw E nL N0 T0 pc' ls (.ref g.length :: st') (g ++ [cl]))
    (k : ∀ (H : Heap) (locs : List Loc) (arr : Array Slot), g.length - N0 + 1 ≤ R.cells → ms_tot g - T0 + sz ≤ R.slots → lv_has arr nL (ms_ul E ls) → ms_H E g H → (∀ q ∈ locs, E.2.2.1 ≤ q.base) → (∀ (q : Nat) (H1 : Heap), va_P E.1 vwCl (ms_cc E g ++ [(q, ms_uc E cl)]) H1 → va_D (ms_fr E) (ms_cc E g ++ [(q, ms_uc E cl)]) → va_S (ms_fr E) E.2.2.2.1 H1 locs → W p l e R s m args below meth c H1 locs (g.length - N0 + 1) (ms_tot g - T0 + sz) Qw (F0 m pc' arr (.ref q :: st'.map (ms_up E)))) → W p l e R s m args below meth c H locs (g.length - N0) (ms_tot g - T0) Qw (F0 m pc arr (st.map (ms_up E)))) :
    ms_P p l e R s m args below meth c Qw E nL N0 T0 pc ls st g := by
  intro h1 h2
  have hl : (g ++ [cl]).length = g.length + 1 := by simp
  have ht : ms_tot (g ++ [cl]) = ms_tot g + sz := by rw [ms_tot_app, hsz]
  obtain ⟨a, b, w⟩ := h (by rw [hl]; omega) (by rw [ht]; omega)
  rw [hl] at a w; rw [ht] at b w
  refine ⟨by omega, by omega, fun H locs arr ha hH hL => k H locs arr (by omega) (by omega) ha hH hL fun q H1 hP hD hS => ms_bd fun hz1 => ?_⟩
  have hq1 : q < H1.size := (hP g.length (q, ms_uc E cl) (by rw [List.getElem?_append_right (by rw [ms_cc_len]; omega)]; simp [ms_cc_len])).lt
  have hlast : (ms_cc E g ++ [(q, ms_uc E cl)])[g.length]? = some (q, ms_uc E cl) := by rw [List.getElem?_append_right (by rw [ms_cc_len]; omega)]; simp [ms_cc_len]
  have hq2 : E.2.2.1 ≤ q := hD.2 _ _ hlast
  have hq3 : q = E.2.2.1 + g.length := by
    rcases Nat.lt_or_ge q (E.2.2.1 + g.length) with hlt | hge
    · exfalso
      have hk : q - E.2.2.1 < g.length := by omega
      have h3 : (ms_cc E g ++ [(q, ms_uc E cl)])[q - E.2.2.1]? = some (E.2.2.1 + (q - E.2.2.1), ms_uc E (g[q - E.2.2.1]'hk)) := by
        rw [List.getElem?_append_left (by rw [ms_cc_len]; exact hk), ms_cc_get, List.getElem?_eq_getElem hk]; rfl
      have h4 := hD.1 _ _ _ _ h3 hlast (by simp only; omega)
      omega
    · omega
  subst hq3
  rw [← ms_cc_app] at hP
  have h5 : g.length - N0 + 1 = g.length + 1 - N0 := by omega
  have h6 : ms_tot g - T0 + sz = ms_tot g + sz - T0 := by omega
  rw [h5, h6]
  refine w H1 locs arr ha (ms_H.of hb hP hS ?_) hL
  rw [hl]; omega
variable {X : Option (Nat × (Nat → Int32))} {rt : Nat} {Qr : Option Value → ms_S → Prop} {tg : List Nat}
/-- loads and stores of locals -/
theorem ms_s_ldI (hx : p.tables.exec = Jvm.exec) (hb : c.code = cc) {k len : Nat} (hd : ∀ (H : Heap) (locs : List Loc) (arr : Array Slot) (x : Int32), arr[k]? = some (.val (.int x)) → W p l e R s m args below meth c H locs (g.length - N0) (ms_tot g - T0) Qw (F0 m (pc + len) arr (.int x :: st.map (ms_up E))) → W p l e R s m args below meth c H locs (g.length - N0) (ms_tot g - T0) Qw (F0 m pc arr (st.map (ms_up E))))
    (h : ms_ld (ms_P p l e R s m args below meth c Qw E nL N0 T0) 1 k (pc + len) ls st g) : ms_P p l e R s m args below meth c Qw E nL N0 T0 pc ls st g := by
  unfold ms_ld at h
  split at h
  · rename_i x hx1
    exact ms_pure' h fun H locs arr ha hH hL kk => hd H locs arr x (ms_lget_at hx1 ha) kk
  all_goals exact h.elim
theorem ms_s_ldL {k len : Nat} (hd : ∀ (H : Heap) (locs : List Loc) (arr : Array Slot) (x : Int64), arr[k]? = some (.val (.long x)) → W p l e R s m args below meth c H locs (g.length - N0) (ms_tot g - T0) Qw (F0 m (pc + len) arr (.long x :: st.map (ms_up E))) → W p l e R s m args below meth c H locs (g.length - N0) (ms_tot g - T0) Qw (F0 m pc arr (st.map (ms_up E))))
    (h : ms_ld (ms_P p l e R s m args below meth c Qw E nL N0 T0) 2 k (pc + len) ls st g) : ms_P p l e R s m args below meth c Qw E nL N0 T0 pc ls st g := by
  unfold ms_ld at h
  split at h
  · exact h.elim
  · rename_i x hx1
    exact ms_pure' h fun H locs arr ha hH hL kk => hd H locs arr x (ms_lget_at hx1 ha) kk
  all_goals exact h.elim
theorem ms_s_ldA {k len : Nat} (hd : ∀ (H : Heap) (locs : List Loc) (arr : Array Slot) (x : Nat), arr[k]? = some (.val (.ref x)) → W p l e R s m args below meth c H locs (g.length - N0) (ms_tot g - T0) Qw (F0 m (pc + len) arr (.ref x :: st.map (ms_up E))) → W p l e R s m args below meth c H locs (g.length - N0) (ms_tot g - T0) Qw (F0 m pc arr (st.map (ms_up E))))
    (hn : ∀ (H : Heap) (locs : List Loc) (arr : Array Slot), arr[k]? = some (.val .null) → W p l e R s m args below meth c H locs (g.length - N0) (ms_tot g - T0) Qw (F0 m (pc + len) arr (.null :: st.map (ms_up E))) → W p l e R s m args below meth c H locs (g.length - N0) (ms_tot g - T0) Qw (F0 m pc arr (st.map (ms_up E))))
    (h : ms_ld (ms_P p l e R s m args below meth c Qw E nL N0 T0) 3 k (pc + len) ls st g) : ms_P p l e R s m args below meth c Qw E nL N0 T0 pc ls st g := by
  unfold ms_ld at h
  split at h
  · exact h.elim
  · exact h.elim
  · rename_i x hx1
    exact ms_pure' h fun H locs arr ha hH hL kk => hd H locs arr (E.2.2.1 + x) (ms_lget_at hx1 ha) kk
  · rename_i hx1
    exact ms_pure' h fun H locs arr ha hH hL kk => hn H locs arr (ms_lget_at hx1 ha) kk
  · rename_i x hx1
    exact ms_pure' h fun H locs arr ha hH hL kk => hd H locs arr _ (ms_lget_at hx1 ha) kk
  · exact h.elim
theorem ms_s_stI {k len : Nat} (hd : ∀ (H : Heap) (locs : List Loc) (arr : Array Slot) (x : Int32) (r : List Value), lv_has arr nL (ms_ul E ls) → (∀ ls' : Array Slot, lv_has ls' nL ((k, Value.int x) :: (ms_ul E ls).filter (fun q => !(q.1 == k) && !(q.1 + 1 == k && q.2.category == 2))) → W p l e R s m args below meth c H locs (g.length - N0) (ms_tot g - T0) Qw (F0 m (pc + len) ls' r)) → W p l e R s m args below meth c H locs (g.length - N0) (ms_tot g - T0) Qw (F0 m pc arr (.int x :: r)))
    (h : ms_sto (ms_P p l e R s m args below meth c Qw E nL N0 T0) 1 k (pc + len) ls st g) : ms_P p l e R s m args below meth c Qw E nL N0 T0 pc ls st g := by
  unfold ms_sto at h
  split at h
  · rename_i x r
    exact ms_pure h fun H locs arr ha hH hL kk => hd H locs arr x _ ha fun ls' hl => kk ls' (ms_lset_has1 rfl rfl hl)
  all_goals exact h.elim
theorem ms_s_stL {k len : Nat} (hd : ∀ (H : Heap) (locs : List Loc) (arr : Array Slot) (x : Int64) (r : List Value), lv_has arr nL (ms_ul E ls) → (∀ ls' : Array Slot, lv_has ls' nL ((k, Value.long x) :: (ms_ul E ls).filter (fun q => !(q.1 == k) && (!(q.1 == k + 1) && !(q.1 + 1 == k && q.2.category == 2)))) → W p l e R s m args below meth c H locs (g.length - N0) (ms_tot g - T0) Qw (F0 m (pc + len) ls' r)) → W p l e R s m args below meth c H locs (g.length - N0) (ms_tot g - T0) Qw (F0 m pc arr (.long x :: r)))
    (h : ms_sto (ms_P p l e R s m args below meth c Qw E nL N0 T0) 2 k (pc + len) ls st g) : ms_P p l e R s m args below meth c Qw E nL N0 T0 pc ls st g := by
  unfold ms_sto at h
  split at h
  · exact h.elim
  · rename_i x r
    exact ms_pure h fun H locs arr ha hH hL kk => hd H locs arr x _ ha fun ls' hl => kk ls' (ms_lset_has2 rfl rfl hl)
  all_goals exact h.elim
theorem ms_s_stA {k len : Nat} (hd : ∀ (H : Heap) (locs : List Loc) (arr : Array Slot) (x : Nat) (r : List Value), lv_has arr nL (ms_ul E ls) → (∀ ls' : Array Slot, lv_has ls' nL ((k, Value.ref x) :: (ms_ul E ls).filter (fun q => !(q.1 == k) && !(q.1 + 1 == k && q.2.category == 2))) → W p l e R s m args below meth c H locs (g.length - N0) (ms_tot g - T0) Qw (F0 m (pc + len) ls' r)) → W p l e R s m args below meth c H locs (g.length - N0) (ms_tot g - T0) Qw (F0 m pc arr (.ref x :: r)))
    (hn : ∀ (H : Heap) (locs : List Loc) (arr : Array Slot) (r : List Value), lv_has arr nL (ms_ul E ls) → (∀ ls' : Array Slot, lv_has ls' nL ((k, Value.null) :: (ms_ul E ls).filter (fun q => !(q.1 == k) && !(q.1 + 1 == k && q.2.category == 2))) → W p l e R s m args below meth c H locs (g.length - N0) (ms_tot g - T0) Qw (F0 m (pc + len) ls' r)) → W p l e R s m args below meth c H locs (g.length - N0) (ms_tot g - T0) Qw (F0 m pc arr (.null :: r)))
    (h : ms_sto (ms_P p l e R s m args below meth c Qw E nL N0 T0) 3 k (pc + len) ls st g) : ms_P p l e R s m args below meth c Qw E nL N0 T0 pc ls st g := by
  unfold ms_sto at h
  split at h
  · exact h.elim
  · exact h.elim
  · rename_i x r
    exact ms_pure h fun H locs arr ha hH hL kk => hd H locs arr (E.2.2.1 + x) _ ha fun ls' hl => kk ls' (ms_lset_has1 (v := .ref x) rfl rfl hl)
  · rename_i r
    exact ms_pure h fun H locs arr ha hH hL kk => hn H locs arr _ ha fun ls' hl => kk ls' (ms_lset_has1 (v := .null) rfl rfl hl)
  · exact h.elim
theorem ms_s_b2 {f : Int32 → Int32 → Int32} {len : Nat} (hd : ∀ (H : Heap) (locs : List Loc) (arr : Array Slot) (x y : Int32) (r : List Value), W p l e R s m args below meth c H locs (g.length - N0) (ms_tot g - T0) Qw (F0 m (pc + len) arr (.int (f x y) :: r)) → W p l e R s m args below meth c H locs (g.length - N0) (ms_tot g - T0) Qw (F0 m pc arr (.int y :: .int x :: r)))
    (h : ms_b2 (ms_P p l e R s m args below meth c Qw E nL N0 T0) f (pc + len) ls st g) : ms_P p l e R s m args below meth c Qw E nL N0 T0 pc ls st g := by
  unfold ms_b2 at h
  split at h
  · exact ms_pure' h fun H locs arr ha hH hL kk => hd H locs arr _ _ _ kk
  · exact h.elim
theorem ms_s_l2 {f : Int64 → Int64 → Int64} {len : Nat} (hd : ∀ (H : Heap) (locs : List Loc) (arr : Array Slot) (x y : Int64) (r : List Value), W p l e R s m args below meth c H locs (g.length - N0) (ms_tot g - T0) Qw (F0 m (pc + len) arr (.long (f x y) :: r)) → W p l e R s m args below meth c H locs (g.length - N0) (ms_tot g - T0) Qw (F0 m pc arr (.long y :: .long x :: r)))
    (h : ms_l2 (ms_P p l e R s m args below meth c Qw E nL N0 T0) f (pc + len) ls st g) : ms_P p l e R s m args below meth c Qw E nL N0 T0 pc ls st g := by
  unfold ms_l2 at h
  split at h
  · exact ms_pure' h fun H locs arr ha hH hL kk => hd H locs arr _ _ _ kk
  · exact h.elim
/-- branches -/
theorem ms_s_goto (hx : p.tables.exec = Jvm.exec) (hb : c.code = cc) {o : Int} (hd : decode cc pc = .ok (.goto o, 3)) (ho : ms_okB pc o tg = true) (h : ms_goto (ms_P p l e R s m args below meth c Qw E nL N0 T0) tg ls st g) : ms_P p l e R s m args below meth c Qw E nL N0 T0 pc ls st g := by
  unfold ms_okB at ho
  split at ho
  · rename_i t
    simp only [decide_eq_true_eq] at ho
    exact ms_pure' h fun H locs arr ha hH hL kk => lv_goto hx hb hd ho kk
  · cases ho
theorem ms_split {C : Prop} {dc : Decidable C} {A B P : Prop} (h : @ite _ C dc A B) (ha : C → A → P) (hb : ¬ C → B → P) : P := by
  by_cases hc : C
  · rw [if_pos hc] at h; exact ha hc h
  · rw [if_neg hc] at h; exact hb hc h
theorem ms_s_if1 (hx : p.tables.exec = Jvm.exec) (hb : c.code = cc) {k : ClassFile.Cond} {o : Int} (hd : decode cc pc = .ok (.ifCond k o, 3)) (ho : ms_okB pc o tg = true) (h : ms_if1 (ms_P p l e R s m args below meth c Qw E nL N0 T0) k tg (pc + 3) ls st g) : ms_P p l e R s m args below meth c Qw E nL N0 T0 pc ls st g := by
  unfold ms_okB at ho
  split at ho
  · rename_i t
    simp only [decide_eq_true_eq] at ho
    dsimp only [ms_if1] at h
    split at h
    · cases k with
      | eq => exact ms_split h (fun hc h => ms_pure' h fun H locs arr ha hH hL kk => lv_if_eq hx hb hd ho (fun _ => kk) (fun z => absurd hc z)) (fun hc h => ms_pure' h fun H locs arr ha hH hL kk => lv_if_eq hx hb hd ho (fun z => absurd z hc) (fun _ => kk))
      | ne => exact ms_split h (fun hc h => ms_pure' h fun H locs arr ha hH hL kk => lv_if_ne hx hb hd ho (fun z => absurd hc z) (fun _ => kk)) (fun hc h => ms_pure' h fun H locs arr ha hH hL kk => lv_if_ne hx hb hd ho (fun _ => kk) (fun z => absurd z hc))
      | lt => exact ms_split h (fun hc h => ms_pure' h fun H locs arr ha hH hL kk => lv_if_lt hx hb hd ho (fun _ => kk) (fun z => absurd hc z)) (fun hc h => ms_pure' h fun H locs arr ha hH hL kk => lv_if_lt hx hb hd ho (fun z => absurd z hc) (fun _ => kk))
      | ge => exact ms_split h (fun hc h => ms_pure' h fun H locs arr ha hH hL kk => lv_if_ge hx hb hd ho (fun _ => kk) (fun z => absurd hc z)) (fun hc h => ms_pure' h fun H locs arr ha hH hL kk => lv_if_ge hx hb hd ho (fun z => absurd z hc) (fun _ => kk))
      | gt => exact ms_split h (fun hc h => ms_pure' h fun H locs arr ha hH hL kk => lv_if_gt hx hb hd ho (fun _ => kk) (fun z => absurd hc z)) (fun hc h => ms_pure' h fun H locs arr ha hH hL kk => lv_if_gt hx hb hd ho (fun z => absurd z hc) (fun _ => kk))
      | le => exact ms_split h (fun hc h => ms_pure' h fun H locs arr ha hH hL kk => lv_if_le hx hb hd ho (fun _ => kk) (fun z => absurd hc z)) (fun hc h => ms_pure' h fun H locs arr ha hH hL kk => lv_if_le hx hb hd ho (fun z => absurd z hc) (fun _ => kk))
    · exact h.elim
  · cases ho
theorem ms_s_if2 (hx : p.tables.exec = Jvm.exec) (hb : c.code = cc) {k : ClassFile.Cond} {o : Int} (hd : decode cc pc = .ok (.if_icmp k o, 3)) (ho : ms_okB pc o tg = true) (h : ms_if2 (ms_P p l e R s m args below meth c Qw E nL N0 T0) k tg (pc + 3) ls st g) : ms_P p l e R s m args below meth c Qw E nL N0 T0 pc ls st g := by
  unfold ms_okB at ho
  split at ho
  · rename_i t
    simp only [decide_eq_true_eq] at ho
    dsimp only [ms_if2] at h
    split at h
    · cases k with
      | eq => exact ms_split h (fun hc h => ms_pure' h fun H locs arr ha hH hL kk => lv_icmp_eq hx hb hd ho (fun _ => kk) (fun z => absurd hc z)) (fun hc h => ms_pure' h fun H locs arr ha hH hL kk => lv_icmp_eq hx hb hd ho (fun z => absurd z hc) (fun _ => kk))
      | ne => exact ms_split h (fun hc h => ms_pure' h fun H locs arr ha hH hL kk => lv_icmp_ne hx hb hd ho (fun z => absurd hc z) (fun _ => kk)) (fun hc h => ms_pure' h fun H locs arr ha hH hL kk => lv_icmp_ne hx hb hd ho (fun _ => kk) (fun z => absurd z hc))
      | lt => exact ms_split h (fun hc h => ms_pure' h fun H locs arr ha hH hL kk => lv_icmp_lt hx hb hd ho (fun _ => kk) (fun z => absurd hc z)) (fun hc h => ms_pure' h fun H locs arr ha hH hL kk => lv_icmp_lt hx hb hd ho (fun z => absurd z hc) (fun _ => kk))
      | ge => exact ms_split h (fun hc h => ms_pure' h fun H locs arr ha hH hL kk => lv_icmp_ge hx hb hd ho (fun _ => kk) (fun z => absurd hc z)) (fun hc h => ms_pure' h fun H locs arr ha hH hL kk => lv_icmp_ge hx hb hd ho (fun z => absurd z hc) (fun _ => kk))
      | gt => exact ms_split h (fun hc h => ms_pure' h fun H locs arr ha hH hL kk => lv_icmp_gt hx hb hd ho (fun _ => kk) (fun z => absurd hc z)) (fun hc h => ms_pure' h fun H locs arr ha hH hL kk => lv_icmp_gt hx hb hd ho (fun z => absurd z hc) (fun _ => kk))
      | le => exact ms_split h (fun hc h => ms_pure' h fun H locs arr ha hH hL kk => lv_icmp_le hx hb hd ho (fun _ => kk) (fun z => absurd hc z)) (fun hc h => ms_pure' h fun H locs arr ha hH hL kk => lv_icmp_le hx hb hd ho (fun z => absurd z hc) (fun _ => kk))
    · exact h.elim
  · cases ho
theorem ms_s_ifnull (hx : p.tables.exec = Jvm.exec) (hb : c.code = cc) {o : Int} (hd : decode cc pc = .ok (.ifnull o, 3)) (ho : ms_okB pc o tg = true) (h : ms_ifn (ms_P p l e R s m args below meth c Qw E nL N0 T0) true tg (pc + 3) ls st g) : ms_P p l e R s m args below meth c Qw E nL N0 T0 pc ls st g := by
  unfold ms_okB at ho
  split at ho
  · simp only [decide_eq_true_eq] at ho
    dsimp only [ms_ifn] at h
    split at h
    · exact ms_pure' h fun H locs arr ha hH hL kk => lv_ifnull hx hb hd kk
    · exact ms_pure' h fun H locs arr ha hH hL kk => lv_ifnullN hx hb hd ho kk
    · exact h.elim
  · cases ho
theorem ms_s_ifnonnull (hx : p.tables.exec = Jvm.exec) (hb : c.code = cc) {o : Int} (hd : decode cc pc = .ok (.ifnonnull o, 3)) (ho : ms_okB pc o tg = true) (h : ms_ifn (ms_P p l e R s m args below meth c Qw E nL N0 T0) false tg (pc + 3) ls st g) : ms_P p l e R s m args below meth c Qw E nL N0 T0 pc ls st g := by
  unfold ms_okB at ho
  split at ho
  · simp only [decide_eq_true_eq] at ho
    dsimp only [ms_ifn] at h
    split at h
    · exact ms_pure' h fun H locs arr ha hH hL kk => lv_ifnonnull hx hb hd ho kk
    · exact ms_pure' h fun H locs arr ha hH hL kk => lv_ifnonnullN hx hb hd kk
    · exact h.elim
  · cases ho
end Snd
