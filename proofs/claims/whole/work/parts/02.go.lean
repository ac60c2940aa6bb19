/-! An abstract memory: a list of cells; a reference is a cell's place in it (100000 + i: the i-th fixed array). 'ad' gives the addresses, 'kc' the array classes. -/
abbrev AE : Type := (Nat × vp_A) ⊕ (Nat × List Value)
def gv (ad : Nat → Nat) (v : Value) : Value := match v with
  | .ref k => .ref (ad k)
  | .int x => .int x
  | .long x => .long x
  | .float x => .float x
  | .double x => .double x
  | .null => .null
  | .retAddr x => .retAddr x
def ga (ad : Nat → Nat) (a : vp_A) : vp_A := (a.1, match a.2 with
  | .inl f => .inl f
  | .inr (.inl f) => .inr (.inl f)
  | .inr (.inr (.inl f)) => .inr (.inr (.inl f))
  | .inr (.inr (.inr (.inl f))) => .inr (.inr (.inr (.inl f)))
  | .inr (.inr (.inr (.inr f))) => .inr (.inr (.inr (.inr (fun j => (f j).map ad)))))
def ge (kc : ClassId) (ad : Nat → Nat) (e : AE) : va_E := match e with
  | .inl x => .inl (kc, ga ad x.2)
  | .inr x => .inr (x.1, x.2.map (gv ad))
def gw (kc : Nat → ClassId) (ad : Nat → Nat) : Nat → List AE → va_W
  | _, [] => []
  | i, e :: M => (ad i, ge (kc i) ad e) :: gw kc ad (i + 1) M
theorem gw_get (kc : Nat → ClassId) (ad : Nat → Nat) : ∀ (M : List AE) (i k : Nat), (gw kc ad i M)[k]? = (M[k]?).map (fun e => (ad (i + k), ge (kc (i + k)) ad e))
  | [], i, k => by simp [gw]
  | e :: M, i, 0 => by simp [gw]
  | e :: M, i, k + 1 => by
    simp only [gw, List.getElem?_cons_succ]
    rw [gw_get kc ad M (i + 1) k, show i + 1 + k = i + (k + 1) by omega]
theorem gw_at {kc : Nat → ClassId} {ad : Nat → Nat} {M : List AE} {k : Nat} {e : AE} (h : M[k]? = some e) : (gw kc ad 0 M)[k]? = some (ad k, ge (kc k) ad e) := by
  rw [gw_get, h]; simp
theorem gw_set (kc : Nat → ClassId) (ad : Nat → Nat) : ∀ (M : List AE) (i k : Nat) (e : AE), gw kc ad i (M.set k e) = (gw kc ad i M).set k (ad (i + k), ge (kc (i + k)) ad e)
  | [], i, k, e => by simp [gw]
  | x :: M, i, 0, e => by simp [gw]
  | x :: M, i, k + 1, e => by
    simp only [List.set_cons_succ, gw]
    rw [gw_set kc ad M (i + 1) k e, show i + 1 + k = i + (k + 1) by omega]
theorem gw_set0 (kc : Nat → ClassId) (ad : Nat → Nat) (M : List AE) (k : Nat) (e : AE) : gw kc ad 0 (M.set k e) = (gw kc ad 0 M).set k (ad k, ge (kc k) ad e) := by
  have h := gw_set kc ad M 0 k e
  rwa [Nat.zero_add] at h
theorem gw_app (kc : Nat → ClassId) (ad : Nat → Nat) : ∀ (M : List AE) (i : Nat) (e : AE), gw kc ad i (M ++ [e]) = gw kc ad i M ++ [(ad (i + M.length), ge (kc (i + M.length)) ad e)]
  | [], i, e => by simp [gw]
  | x :: M, i, e => by
    simp only [List.cons_append, gw, List.length_cons]
    rw [gw_app kc ad M (i + 1) e, show i + 1 + M.length = i + (M.length + 1) by omega]
theorem gv_cat (ad : Nat → Nat) (v : Value) : (gv ad v).category = v.category := by cases v <;> rfl
def lp (ad : Nat → Nat) : Nat → List (Option Value) → List (Nat × Value)
  | _, [] => []
  | i, none :: L => lp ad (i + 1) L
  | i, some v :: L => (i, gv ad v) :: lp ad (i + 1) L
theorem lp_mem (ad : Nat → Nat) : ∀ (L : List (Option Value)) (i : Nat) (q : Nat × Value), q ∈ lp ad i L ↔ ∃ (j : Nat) (v : Value), L[j]? = some (some v) ∧ q = (i + j, gv ad v)
  | [], i, q => by simp [lp]
  | none :: L, i, q => by
    simp only [lp, lp_mem ad L (i + 1) q]
    constructor
    · rintro ⟨j, v, h, rfl⟩
      exact ⟨j + 1, v, by simpa using h, by rw [show i + 1 + j = i + (j + 1) by omega]⟩
    · rintro ⟨j, v, h, rfl⟩
      cases j with
      | zero => simp at h
      | succ j => exact ⟨j, v, by simpa using h, by rw [show i + 1 + j = i + (j + 1) by omega]⟩
  | some w :: L, i, q => by
    simp only [lp, List.mem_cons, lp_mem ad L (i + 1) q]
    constructor
    · rintro (rfl | ⟨j, v, h, rfl⟩)
      · exact ⟨0, w, by simp, by simp⟩
      · exact ⟨j + 1, v, by simpa using h, by rw [show i + 1 + j = i + (j + 1) by omega]⟩
    · rintro ⟨j, v, h, rfl⟩
      cases j with
      | zero =>
        simp at h
        exact Or.inl (by rw [h]; simp)
      | succ j => exact Or.inr ⟨j, v, by simpa using h, by rw [show i + 1 + j = i + (j + 1) by omega]⟩
theorem lp_mem0 {ad : Nat → Nat} {L : List (Option Value)} {q : Nat × Value} : q ∈ lp ad 0 L ↔ ∃ (j : Nat) (v : Value), L[j]? = some (some v) ∧ q = (j, gv ad v) := by
  rw [lp_mem]; simp
theorem lp_at {ls : Array Slot} {nL : Nat} {ad : Nat → Nat} {L : List (Option Value)} {i : Nat} {v : Value} (h : lv_has ls nL (lp ad 0 L)) (hL : L[i]? = some (some v)) : ls[i]? = some (.val (gv ad v)) :=
  h.2.2 (i, gv ad v) (lp_mem0.mpr ⟨i, v, hL, rfl⟩)
theorem lp_le {ls : Array Slot} {nL : Nat} {ad : Nat → Nat} {L L' : List (Option Value)} (h : lv_has ls nL (lp ad 0 L)) (hl : ∀ (i : Nat) (v : Value), L'[i]? = some (some v) → L[i]? = some (some v)) : lv_has ls nL (lp ad 0 L') :=
  ⟨h.1, h.2.1, fun q hq => by
    obtain ⟨j, v, hj, rfl⟩ := lp_mem0.mp hq
    exact h.2.2 _ (lp_mem0.mpr ⟨j, v, hl j v hj, rfl⟩)⟩
def kl (L : List (Option Value)) (i : Nat) : List (Option Value) := match i with
  | 0 => L
  | j + 1 => match L[j]? with
    | some (some w) => if w.category = 2 then L.set j none else L
    | _ => L
theorem kl_at {L : List (Option Value)} {i j : Nat} {w : Value} (h : (kl L i)[j]? = some (some w)) : L[j]? = some (some w) ∧ ¬ (j + 1 = i ∧ w.category = 2) := by
  unfold kl at h
  cases i with
  | zero => exact ⟨h, fun h2 => by omega⟩
  | succ i =>
    simp only at h
    by_cases hij : i = j
    · subst hij
      cases hw : L[i]? with
      | none => rw [hw] at h; simp only at h; rw [hw] at h; cases h
      | some o =>
        cases o with
        | none => rw [hw] at h; simp only at h; rw [hw] at h; cases h
        | some u =>
          rw [hw] at h
          simp only at h
          by_cases hc : u.category = 2
          · rw [if_pos hc, List.getElem?_set] at h
            simp only [if_true] at h
            split at h <;> cases h
          · rw [if_neg hc, hw] at h
            cases h
            exact ⟨rfl, fun h2 => hc h2.2⟩
    · have h3 : L[j]? = some (some w) := by
        revert h
        split
        · split
          · intro h
            rwa [List.getElem?_set_ne hij] at h
          · exact id
        · exact id
      exact ⟨h3, fun h2 => hij (by omega)⟩
def st1 (L : List (Option Value)) (i : Nat) (v : Value) : List (Option Value) := (kl L i).set i (some v)
def st2 (L : List (Option Value)) (i : Nat) (v : Value) : List (Option Value) := ((kl L i).set i (some v)).set (i + 1) none
theorem lp_st1 {ls : Array Slot} {nL : Nat} {ad : Nat → Nat} {L : List (Option Value)} {i : Nat} {v : Value} (h : lv_has ls nL ((i, gv ad v) :: (lp ad 0 L).filter (fun q => !(q.1 == i) && !(q.1 + 1 == i && q.2.category == 2)))) : lv_has ls nL (lp ad 0 (st1 L i v)) := by
  refine ⟨h.1, h.2.1, fun q hq => h.2.2 q ?_⟩
  obtain ⟨j, w, hj, rfl⟩ := lp_mem0.mp hq
  unfold st1 at hj
  by_cases hij : i = j
  · subst hij
    rw [List.getElem?_set] at hj
    simp only [if_true] at hj
    split at hj
    · cases hj
      exact List.mem_cons_self
    · cases hj
  · rw [List.getElem?_set_ne hij] at hj
    obtain ⟨h1, h2⟩ := kl_at hj
    refine List.mem_cons_of_mem _ (List.mem_filter.mpr ⟨lp_mem0.mpr ⟨j, w, h1, rfl⟩, ?_⟩)
    have hji : ¬ j = i := fun e => hij e.symm
    simp only [gv_cat, Bool.and_eq_true, Bool.not_eq_true', beq_eq_false_iff_ne, ne_eq, Bool.and_eq_false_iff]
    refine ⟨hji, ?_⟩
    by_cases h3 : j + 1 = i
    · exact Or.inr fun h4 => h2 ⟨h3, h4⟩
    · exact Or.inl h3
theorem lp_st2 {ls : Array Slot} {nL : Nat} {ad : Nat → Nat} {L : List (Option Value)} {i : Nat} {v : Value} (h : lv_has ls nL ((i, gv ad v) :: (lp ad 0 L).filter (fun q => !(q.1 == i) && (!(q.1 == i + 1) && !(q.1 + 1 == i && q.2.category == 2))))) : lv_has ls nL (lp ad 0 (st2 L i v)) := by
  refine ⟨h.1, h.2.1, fun q hq => h.2.2 q ?_⟩
  obtain ⟨j, w, hj, rfl⟩ := lp_mem0.mp hq
  unfold st2 at hj
  by_cases h1j : i + 1 = j
  · subst h1j
    rw [List.getElem?_set] at hj
    simp only [if_true] at hj
    split at hj <;> cases hj
  rw [List.getElem?_set_ne h1j] at hj
  by_cases hij : i = j
  · subst hij
    rw [List.getElem?_set] at hj
    simp only [if_true] at hj
    split at hj
    · cases hj
      exact List.mem_cons_self
    · cases hj
  · rw [List.getElem?_set_ne hij] at hj
    obtain ⟨h1, h2⟩ := kl_at hj
    refine List.mem_cons_of_mem _ (List.mem_filter.mpr ⟨lp_mem0.mpr ⟨j, w, h1, rfl⟩, ?_⟩)
    have hji : ¬ j = i := fun e => hij e.symm
    have hji1 : ¬ j = i + 1 := fun e => h1j e.symm
    simp only [gv_cat, Bool.and_eq_true, Bool.not_eq_true', beq_eq_false_iff_ne, ne_eq, Bool.and_eq_false_iff]
    refine ⟨hji, hji1, ?_⟩
    by_cases h3 : j + 1 = i
    · exact Or.inr fun h4 => h2 ⟨h3, h4⟩
    · exact Or.inl h3
/-- a method: name, bytes, how many locals, what it returns -/
abbrev Mt : Type := MethodName × ByteArray × Nat × Option FieldType
def isNest : Cond → Bool
  | .fieldLinkNest .. => true
  | .methodLinkNest .. => true
  | .arrayOver (.object _) => true
  | _ => false
def gin (w : Cond) : Prop := w ∈ lw_tbl ∧ goodWord w = true
def nin (w : Cond) : Prop := w ∈ lw_tbl ∧ isNest w = true
theorem nest_warm {w : Cond} (h : isNest w = true) {s U : State} (hW : s.WarmedH U.vm) (hZ : va_Nw w s) : va_Nw w U := by
  cases w with
  | fieldLinkNest a i b n d h => exact va_Nw.warmF hW hZ
  | methodLinkNest a i x h => exact va_Nw.warmM hW hZ
  | arrayOver t =>
    cases t with
    | object C => exact va_AO.moved hW.alike hZ
    | _ => cases h
  | _ => cases h
theorem nest_same {w : Cond} (h : isNest w = true) {s U : State} (hv : s.vm = U.vm) (hZ : va_Nw w s) : va_Nw w U := by
  cases w with
  | fieldLinkNest a i b n d h => exact va_Nw.same rfl hv hZ
  | methodLinkNest a i x h => exact va_Nw.same rfl hv hZ
  | arrayOver t =>
    cases t with
    | object C => exact va_AO.moved (by rw [hv]; exact Vm.Alike.refl _) hZ
    | _ => cases h
  | _ => cases h
theorem good_of {w : Cond} (h : goodWord w = true) : (w.onTables && w.keeps) = true ∨ ∃ ty, w = .arrayClass ty := by
  cases w <;> first | exact Or.inl h | exact Or.inr ⟨_, rfl⟩
def Ev (Y : Mt) (p : Program) (s : State) (m : MethodId) (args : Array Value) (meth : Method) (c : Code) : Prop :=
  p.tables.exec = Jvm.exec ∧ c.code = Y.2.1 ∧ c.maxLocals = Y.2.2.1 ∧ meth.sig.returnType = Y.2.2.2 ∧ meth.locks = false ∧ s.vm.findClass Y.1.cls = some m.cls ∧ (∀ w, gin w → w.before args s = true) ∧ (∀ w, nin w → va_Nw w s) ∧ (Y.1.name = "<init>" → meth.name = "<init>")
def Wd (D : va_G) (kc : Nat → ClassId) (ad : Nat → Nat) (M : List AE) (s : State) (H : Heap) : Prop :=
  va_P D gcl (gw kc ad 0 M) H ∧ va_K D gcl [] s ∧ ∀ (k t : Nat) (a : vp_A), M[k]? = some (.inl (t, a)) → va_K D gcl [(kc k, tyk t)] s
/-- a launch, and what else is known of one fixed cell (the law's script) -/
abbrev Lx : Type := Launch × (Nat → (Nat → Prop) → State → Prop)
def mT : Nat → (Nat → Prop) → State → Prop := fun _ _ _ => True
def mE (l : Launch) : Lx := (l, mT)
/-- the fixed arrays: their fields in the tables, their contents, none of them in A -/
def Sta (T : Nat → (Nat → Prop) → State → Prop) (ad : Nat → Nat) (A : Nat → Prop) (s : State) (H : Heap) : Prop := (∀ i, i < 3 →
  va_Z sta_C (sta_n i) "[I" (.ref (ad (100000 + i))) A s H ∧ va_T .int (ad (100000 + i)) 25 (fun j => .int (sta_v i j)) A s H) ∧ T (ad 100003) A s
/-- the law's script: n ints xs, no cell of ours -/
def scT (n : Nat) (xs : Nat → Int32) : Nat → (Nat → Prop) → State → Prop := fun b A s => va_X b n xs s s.heap ∧ b < s.heap.size ∧ ¬ A b
def Agr (al : Bool) (n : Nat) (kc kc' : Nat → ClassId) (ad ad' : Nat → Nat) : Prop := match al with
  | true => (∀ k, k < n → kc' k = kc k) ∧ ∀ k, k < n ∨ 100000 ≤ k → ad' k = ad k
  | false => kc' = kc ∧ ad' = ad
theorem Agr.rf {al : Bool} {n : Nat} {kc : Nat → ClassId} {ad : Nat → Nat} : Agr al n kc kc ad ad := by
  cases al
  · exact ⟨rfl, rfl⟩
  · exact ⟨fun _ _ => rfl, fun _ _ => rfl⟩
def RetOK (Y : Mt) (r : Option Value) (pc : Nat) : Prop := match Y.2.2.2, r with
  | none, none => decode Y.2.1 pc = .ok (.return_, 1)
  | some .int, some (.int _) => decode Y.2.1 pc = .ok (.ireturn, 1)
  | some .boolean, some (.int v) => narrow .boolean (.int v) = .int v ∧ decode Y.2.1 pc = .ok (.ireturn, 1)
  | some .long, some (.long _) => decode Y.2.1 pc = .ok (.lreturn, 1)
  | some (.array _), some (.ref _) => decode Y.2.1 pc = .ok (.areturn, 1)
  | _, _ => False
abbrev Post : Type := Option Value → List AE → Prop
def Fn (E : Lx) (Y : Mt) (al : Bool) (R : Room) (n : Nat) (Φ : Post) (p : Program) (e : Env) (s : State) (m : MethodId) (args : Array Value) (below : List Frame) (meth : Method) (c : Code) (D : va_G) (kc : Nat → ClassId) (ad : Nat → Nat) (A : Nat → Prop) (Q : State → Prop) : Prop :=
  ∀ (r : Option Value) (M' : List AE) (kc' : Nat → ClassId) (ad' : Nat → Nat) (H' : Heap) (locs' : List Loc) (cs' ss' pc' : Nat) (ls' : Array Slot), Φ r M' → RetOK Y r pc' → n ≤ M'.length → Agr al n kc kc' ad ad' → Wd D kc' ad' M' s H' → va_D A (gw kc' ad' 0 M') → va_S A s.heap H' locs' → cs' ≤ R.cells → ss' ≤ R.slots → W p E.1 e R s m args below meth c H' locs' cs' ss' Q (F0 m pc' ls' (r.map (gv ad')).toList)
def Cx (E : Lx) (Y : Mt) (al : Bool) (R : Room) (cs ss : Nat) (L : List (Option Value)) (M : List AE) (Φ : Post) (p : Program) (e : Env) (s : State) (m : MethodId) (args : Array Value) (below : List Frame) (meth : Method) (c : Code) (D : va_G) (kc : Nat → ClassId) (ad : Nat → Nat) (A : Nat → Prop) (H : Heap) (locs : List Loc) (ls : Array Slot) (Q : State → Prop) : Prop :=
  Ev Y p s m args meth c ∧ Wd D kc ad M s H ∧ va_D A (gw kc ad 0 M) ∧ va_S A s.heap H locs ∧ (∀ q, s.heap.size ≤ q → A q) ∧ Sta E.2 ad A s s.heap ∧ lv_has ls Y.2.2.1 (lp ad 0 L) ∧ cs ≤ R.cells ∧ ss ≤ R.slots ∧ Fn E Y al R M.length Φ p e s m args below meth c D kc ad A Q
/-- from the instruction at pc, with locals L, stack st and memory M, method Y comes to its return with Φ -/
def Go (E : Lx) (Y : Mt) (al : Bool) (R : Room) (cs ss pc : Nat) (L : List (Option Value)) (st : List Value) (M : List AE) (Φ : Post) : Prop :=
  ∀ (p : Program) (e : Env) (s : State) (m : MethodId) (args : Array Value) (below : List Frame) (meth : Method) (c : Code) (D : va_G) (kc : Nat → ClassId) (ad : Nat → Nat) (A : Nat → Prop) (H : Heap) (locs : List Loc) (ls : Array Slot) (Q : State → Prop),
    Cx E Y al R cs ss L M Φ p e s m args below meth c D kc ad A H locs ls Q → W p E.1 e R s m args below meth c H locs cs ss Q (F0 m pc ls (st.map (gv ad)))
section GORULES
variable {E : Lx} {Y : Mt} {al : Bool} {R : Room} {cs ss pc : Nat} {L : List (Option Value)} {st : List Value} {M : List AE} {Φ : Post}
theorem go_ret {r : Option Value} (hr : RetOK Y r pc) (h : Φ r M) : Go E Y al R cs ss pc L r.toList M Φ := by
  intro p e s m args below meth c D kc ad A H locs ls Q X
  obtain ⟨hE, hW, hD, hS, hA, hT, hl, hc, hs, hf⟩ := X
  have h1 := hf r M kc ad H locs cs ss pc ls h hr (Nat.le_refl _) Agr.rf hW hD hS hc hs
  cases r with
  | none => exact h1
  | some v => exact h1
theorem go_weak {L' : List (Option Value)} (hl : ∀ (i : Nat) (v : Value), L'[i]? = some (some v) → L[i]? = some (some v)) (k : Go E Y al R cs ss pc L' st M Φ) : Go E Y al R cs ss pc L st M Φ :=
  fun p e s m args below meth c D kc ad A H locs ls Q X => k p e s m args below meth c D kc ad A H locs ls Q ⟨X.1, X.2.1, X.2.2.1, X.2.2.2.1, X.2.2.2.2.1, X.2.2.2.2.2.1, lp_le X.2.2.2.2.2.2.1 hl, X.2.2.2.2.2.2.2⟩
theorem go_post {Ψ : Post} (h : ∀ r M', Ψ r M' → Φ r M') (k : Go E Y al R cs ss pc L st M Ψ) : Go E Y al R cs ss pc L st M Φ :=
  fun p e s m args below meth c D kc ad A H locs ls Q X => k p e s m args below meth c D kc ad A H locs ls Q ⟨X.1, X.2.1, X.2.2.1, X.2.2.2.1, X.2.2.2.2.1, X.2.2.2.2.2.1, X.2.2.2.2.2.2.1, X.2.2.2.2.2.2.2.1, X.2.2.2.2.2.2.2.2.1, fun r M' kc' ad' H' locs' cs' ss' pc' ls' hp => X.2.2.2.2.2.2.2.2.2 r M' kc' ad' H' locs' cs' ss' pc' ls' (h r M' hp)⟩
theorem go_iconst {n : Int} {v : Int32} (d : decode Y.2.1 pc = .ok (.iconst n, 1)) (hv : Int32.ofInt n = v) (k : Go E Y al R cs ss (pc + 1) L (.int v :: st) M Φ) : Go E Y al R cs ss pc L (st) M Φ :=
  fun p e s m args below meth c D kc ad A H locs ls Q X => lv_iconst X.1.1 X.1.2.1 d hv (k p e s m args below meth c D kc ad A H locs ls Q X)
theorem go_bipush {n : Int} {v : Int32} (d : decode Y.2.1 pc = .ok (.bipush n, 2)) (hv : (Int8.ofInt n).toInt32 = v) (k : Go E Y al R cs ss (pc + 2) L (.int v :: st) M Φ) : Go E Y al R cs ss pc L (st) M Φ :=
  fun p e s m args below meth c D kc ad A H locs ls Q X => lv_bipush X.1.1 X.1.2.1 d hv (k p e s m args below meth c D kc ad A H locs ls Q X)
theorem go_sipush {n : Int} {v : Int32} (d : decode Y.2.1 pc = .ok (.sipush n, 3)) (hv : (Int16.ofInt n).toInt32 = v) (k : Go E Y al R cs ss (pc + 3) L (.int v :: st) M Φ) : Go E Y al R cs ss pc L (st) M Φ :=
  fun p e s m args below meth c D kc ad A H locs ls Q X => lv_sipush X.1.1 X.1.2.1 d hv (k p e s m args below meth c D kc ad A H locs ls Q X)
theorem go_lconst {n : Fin 2} {v : Int64} (d : decode Y.2.1 pc = .ok (.lconst n, 1)) (hv : Int64.ofNat (n : Nat) = v) (k : Go E Y al R cs ss (pc + 1) L (.long v :: st) M Φ) : Go E Y al R cs ss pc L (st) M Φ :=
  fun p e s m args below meth c D kc ad A H locs ls Q X => lv_lconst X.1.1 X.1.2.1 d hv (k p e s m args below meth c D kc ad A H locs ls Q X)
theorem go_iload {i : Nat} {x : Int32} (d : decode Y.2.1 pc = .ok (.iload i, 2)) (hl : L[i]? = some (some (.int x))) (k : Go E Y al R cs ss (pc + 2) L (.int x :: st) M Φ) : Go E Y al R cs ss pc L (st) M Φ :=
  fun p e s m args below meth c D kc ad A H locs ls Q X => lv_iload X.1.1 X.1.2.1 d (lp_at X.2.2.2.2.2.2.1 hl) (k p e s m args below meth c D kc ad A H locs ls Q X)
theorem go_iload_n {j : Fin 4} {i : Nat} {x : Int32} (d : decode Y.2.1 pc = .ok (.iload_n j, 1)) (hi : (j : Nat) = i) (hl : L[i]? = some (some (.int x))) (k : Go E Y al R cs ss (pc + 1) L (.int x :: st) M Φ) : Go E Y al R cs ss pc L (st) M Φ :=
  fun p e s m args below meth c D kc ad A H locs ls Q X => lv_iload_n X.1.1 X.1.2.1 d hi (lp_at X.2.2.2.2.2.2.1 hl) (k p e s m args below meth c D kc ad A H locs ls Q X)
theorem go_lload {i : Nat} {x : Int64} (d : decode Y.2.1 pc = .ok (.lload i, 2)) (hl : L[i]? = some (some (.long x))) (k : Go E Y al R cs ss (pc + 2) L (.long x :: st) M Φ) : Go E Y al R cs ss pc L (st) M Φ :=
  fun p e s m args below meth c D kc ad A H locs ls Q X => lv_lload X.1.1 X.1.2.1 d (lp_at X.2.2.2.2.2.2.1 hl) (k p e s m args below meth c D kc ad A H locs ls Q X)
theorem go_lload_n {j : Fin 4} {i : Nat} {x : Int64} (d : decode Y.2.1 pc = .ok (.lload_n j, 1)) (hi : (j : Nat) = i) (hl : L[i]? = some (some (.long x))) (k : Go E Y al R cs ss (pc + 1) L (.long x :: st) M Φ) : Go E Y al R cs ss pc L (st) M Φ :=
  fun p e s m args below meth c D kc ad A H locs ls Q X => lv_lload_n X.1.1 X.1.2.1 d hi (lp_at X.2.2.2.2.2.2.1 hl) (k p e s m args below meth c D kc ad A H locs ls Q X)
theorem go_aload {i : Nat} {x : Nat} (d : decode Y.2.1 pc = .ok (.aload i, 2)) (hl : L[i]? = some (some (.ref x))) (k : Go E Y al R cs ss (pc + 2) L (.ref x :: st) M Φ) : Go E Y al R cs ss pc L (st) M Φ :=
  fun p e s m args below meth c D kc ad A H locs ls Q X => lv_aload X.1.1 X.1.2.1 d (lp_at X.2.2.2.2.2.2.1 hl) (k p e s m args below meth c D kc ad A H locs ls Q X)
theorem go_aload_n {j : Fin 4} {i : Nat} {x : Nat} (d : decode Y.2.1 pc = .ok (.aload_n j, 1)) (hi : (j : Nat) = i) (hl : L[i]? = some (some (.ref x))) (k : Go E Y al R cs ss (pc + 1) L (.ref x :: st) M Φ) : Go E Y al R cs ss pc L (st) M Φ :=
  fun p e s m args below meth c D kc ad A H locs ls Q X => lv_aload_n X.1.1 X.1.2.1 d hi (lp_at X.2.2.2.2.2.2.1 hl) (k p e s m args below meth c D kc ad A H locs ls Q X)
theorem go_istore {i : Nat} {x : Int32} {L' : List (Option Value)} (d : decode Y.2.1 pc = .ok (.istore i, 2)) (hn : i < Y.2.2.1) (hl : st1 L i (.int x) = L') (k : Go E Y al R cs ss (pc + 2) L' st M Φ) : Go E Y al R cs ss pc L (.int x :: st) M Φ := by
  subst hl
  exact fun p e s m args below meth c D kc ad A H locs ls Q X => lv_istore X.1.1 X.1.2.1 d X.2.2.2.2.2.2.1 hn rfl (fun ls' h => k p e s m args below meth c D kc ad A H locs ls' Q ⟨X.1, X.2.1, X.2.2.1, X.2.2.2.1, X.2.2.2.2.1, X.2.2.2.2.2.1, lp_st1 h, X.2.2.2.2.2.2.2⟩)
theorem go_istore_n {j : Fin 4} {i : Nat} {x : Int32} {L' : List (Option Value)} (d : decode Y.2.1 pc = .ok (.istore_n j, 1)) (hi : (j : Nat) = i) (hn : i < Y.2.2.1) (hl : st1 L i (.int x) = L') (k : Go E Y al R cs ss (pc + 1) L' st M Φ) : Go E Y al R cs ss pc L (.int x :: st) M Φ := by
  subst hl
  exact fun p e s m args below meth c D kc ad A H locs ls Q X => lv_istore_n X.1.1 X.1.2.1 d hi X.2.2.2.2.2.2.1 hn rfl (fun ls' h => k p e s m args below meth c D kc ad A H locs ls' Q ⟨X.1, X.2.1, X.2.2.1, X.2.2.2.1, X.2.2.2.2.1, X.2.2.2.2.2.1, lp_st1 h, X.2.2.2.2.2.2.2⟩)
theorem go_lstore {i : Nat} {x : Int64} {L' : List (Option Value)} (d : decode Y.2.1 pc = .ok (.lstore i, 2)) (hn : i + 1 < Y.2.2.1) (hl : st2 L i (.long x) = L') (k : Go E Y al R cs ss (pc + 2) L' st M Φ) : Go E Y al R cs ss pc L (.long x :: st) M Φ := by
  subst hl
  exact fun p e s m args below meth c D kc ad A H locs ls Q X => lv_lstore X.1.1 X.1.2.1 d X.2.2.2.2.2.2.1 hn rfl (fun ls' h => k p e s m args below meth c D kc ad A H locs ls' Q ⟨X.1, X.2.1, X.2.2.1, X.2.2.2.1, X.2.2.2.2.1, X.2.2.2.2.2.1, lp_st2 h, X.2.2.2.2.2.2.2⟩)
theorem go_lstore_n {j : Fin 4} {i : Nat} {x : Int64} {L' : List (Option Value)} (d : decode Y.2.1 pc = .ok (.lstore_n j, 1)) (hi : (j : Nat) = i) (hn : i + 1 < Y.2.2.1) (hl : st2 L i (.long x) = L') (k : Go E Y al R cs ss (pc + 1) L' st M Φ) : Go E Y al R cs ss pc L (.long x :: st) M Φ := by
  subst hl
  exact fun p e s m args below meth c D kc ad A H locs ls Q X => lv_lstore_n X.1.1 X.1.2.1 d hi X.2.2.2.2.2.2.1 hn rfl (fun ls' h => k p e s m args below meth c D kc ad A H locs ls' Q ⟨X.1, X.2.1, X.2.2.1, X.2.2.2.1, X.2.2.2.2.1, X.2.2.2.2.2.1, lp_st2 h, X.2.2.2.2.2.2.2⟩)
theorem go_astore {i : Nat} {x : Nat} {L' : List (Option Value)} (d : decode Y.2.1 pc = .ok (.astore i, 2)) (hn : i < Y.2.2.1) (hl : st1 L i (.ref x) = L') (k : Go E Y al R cs ss (pc + 2) L' st M Φ) : Go E Y al R cs ss pc L (.ref x :: st) M Φ := by
  subst hl
  exact fun p e s m args below meth c D kc ad A H locs ls Q X => lv_astore X.1.1 X.1.2.1 d X.2.2.2.2.2.2.1 hn rfl (fun ls' h => k p e s m args below meth c D kc ad A H locs ls' Q ⟨X.1, X.2.1, X.2.2.1, X.2.2.2.1, X.2.2.2.2.1, X.2.2.2.2.2.1, lp_st1 h, X.2.2.2.2.2.2.2⟩)
theorem go_astore_n {j : Fin 4} {i : Nat} {x : Nat} {L' : List (Option Value)} (d : decode Y.2.1 pc = .ok (.astore_n j, 1)) (hi : (j : Nat) = i) (hn : i < Y.2.2.1) (hl : st1 L i (.ref x) = L') (k : Go E Y al R cs ss (pc + 1) L' st M Φ) : Go E Y al R cs ss pc L (.ref x :: st) M Φ := by
  subst hl
  exact fun p e s m args below meth c D kc ad A H locs ls Q X => lv_astore_n X.1.1 X.1.2.1 d hi X.2.2.2.2.2.2.1 hn rfl (fun ls' h => k p e s m args below meth c D kc ad A H locs ls' Q ⟨X.1, X.2.1, X.2.2.1, X.2.2.2.1, X.2.2.2.2.1, X.2.2.2.2.2.1, lp_st1 h, X.2.2.2.2.2.2.2⟩)
theorem go_iinc {i : Nat} {n : Int} {x v : Int32} {L' : List (Option Value)} (d : decode Y.2.1 pc = .ok (.iinc i n, 3)) (hx : L[i]? = some (some (.int x))) (hv : x + Int32.ofInt n = v) (hn : i < Y.2.2.1) (hl : st1 L i (.int v) = L') (k : Go E Y al R cs ss (pc + 3) L' st M Φ) : Go E Y al R cs ss pc L st M Φ := by
  subst hl
  intro p e s m args below meth c D kc ad A H locs ls Q X
  obtain ⟨q, hq⟩ := List.mem_iff_getElem?.mp (lp_mem0.mpr ⟨i, _, hx, rfl⟩ : (i, gv ad (.int x)) ∈ lp ad 0 L)
  exact lv_iinc (k := q) X.1.1 X.1.2.1 d X.2.2.2.2.2.2.1 hq hv hn rfl (fun ls' h => k p e s m args below meth c D kc ad A H locs ls' Q ⟨X.1, X.2.1, X.2.2.1, X.2.2.2.1, X.2.2.2.2.1, X.2.2.2.2.2.1, lp_st1 h, X.2.2.2.2.2.2.2⟩)
theorem go_iadd {x y : Int32} (d : decode Y.2.1 pc = .ok (.iadd, 1)) (k : Go E Y al R cs ss (pc + 1) L (.int (x + y) :: st) M Φ) : Go E Y al R cs ss pc L (.int y :: .int x :: st) M Φ :=
  fun p e s m args below meth c D kc ad A H locs ls Q X => lv_iadd X.1.1 X.1.2.1 d (k p e s m args below meth c D kc ad A H locs ls Q X)
theorem go_isub {x y : Int32} (d : decode Y.2.1 pc = .ok (.isub, 1)) (k : Go E Y al R cs ss (pc + 1) L (.int (x - y) :: st) M Φ) : Go E Y al R cs ss pc L (.int y :: .int x :: st) M Φ :=
  fun p e s m args below meth c D kc ad A H locs ls Q X => lv_isub X.1.1 X.1.2.1 d (k p e s m args below meth c D kc ad A H locs ls Q X)
theorem go_imul {x y : Int32} (d : decode Y.2.1 pc = .ok (.imul, 1)) (k : Go E Y al R cs ss (pc + 1) L (.int (x * y) :: st) M Φ) : Go E Y al R cs ss pc L (.int y :: .int x :: st) M Φ :=
  fun p e s m args below meth c D kc ad A H locs ls Q X => lv_imul X.1.1 X.1.2.1 d (k p e s m args below meth c D kc ad A H locs ls Q X)
theorem go_iand {x y : Int32} (d : decode Y.2.1 pc = .ok (.iand, 1)) (k : Go E Y al R cs ss (pc + 1) L (.int (x &&& y) :: st) M Φ) : Go E Y al R cs ss pc L (.int y :: .int x :: st) M Φ :=
  fun p e s m args below meth c D kc ad A H locs ls Q X => lv_iand X.1.1 X.1.2.1 d (k p e s m args below meth c D kc ad A H locs ls Q X)
theorem go_ior {x y : Int32} (d : decode Y.2.1 pc = .ok (.ior, 1)) (k : Go E Y al R cs ss (pc + 1) L (.int (x ||| y) :: st) M Φ) : Go E Y al R cs ss pc L (.int y :: .int x :: st) M Φ :=
  fun p e s m args below meth c D kc ad A H locs ls Q X => lv_ior X.1.1 X.1.2.1 d (k p e s m args below meth c D kc ad A H locs ls Q X)
theorem go_ixor {x y : Int32} (d : decode Y.2.1 pc = .ok (.ixor, 1)) (k : Go E Y al R cs ss (pc + 1) L (.int (x ^^^ y) :: st) M Φ) : Go E Y al R cs ss pc L (.int y :: .int x :: st) M Φ :=
  fun p e s m args below meth c D kc ad A H locs ls Q X => lv_ixor X.1.1 X.1.2.1 d (k p e s m args below meth c D kc ad A H locs ls Q X)
theorem go_ishl {x y : Int32} (d : decode Y.2.1 pc = .ok (.ishl, 1)) (k : Go E Y al R cs ss (pc + 1) L (.int (x <<< (y &&& 31)) :: st) M Φ) : Go E Y al R cs ss pc L (.int y :: .int x :: st) M Φ :=
  fun p e s m args below meth c D kc ad A H locs ls Q X => lv_ishl X.1.1 X.1.2.1 d (k p e s m args below meth c D kc ad A H locs ls Q X)
theorem go_ishr {x y : Int32} (d : decode Y.2.1 pc = .ok (.ishr, 1)) (k : Go E Y al R cs ss (pc + 1) L (.int (x >>> (y &&& 31)) :: st) M Φ) : Go E Y al R cs ss pc L (.int y :: .int x :: st) M Φ :=
  fun p e s m args below meth c D kc ad A H locs ls Q X => lv_ishr X.1.1 X.1.2.1 d (k p e s m args below meth c D kc ad A H locs ls Q X)
theorem go_idiv {x y : Int32} (d : decode Y.2.1 pc = .ok (.idiv, 1)) (hne : ¬ y = 0) (k : Go E Y al R cs ss (pc + 1) L (.int (x / y) :: st) M Φ) : Go E Y al R cs ss pc L (.int y :: .int x :: st) M Φ :=
  fun p e s m args below meth c D kc ad A H locs ls Q X => lv_idiv X.1.1 X.1.2.1 d hne (k p e s m args below meth c D kc ad A H locs ls Q X)
theorem go_irem {x y : Int32} (d : decode Y.2.1 pc = .ok (.irem, 1)) (hne : ¬ y = 0) (k : Go E Y al R cs ss (pc + 1) L (.int (x - x / y * y) :: st) M Φ) : Go E Y al R cs ss pc L (.int y :: .int x :: st) M Φ :=
  fun p e s m args below meth c D kc ad A H locs ls Q X => lv_irem X.1.1 X.1.2.1 d hne (k p e s m args below meth c D kc ad A H locs ls Q X)
theorem go_ladd {x y : Int64} (d : decode Y.2.1 pc = .ok (.ladd, 1)) (k : Go E Y al R cs ss (pc + 1) L (.long (x + y) :: st) M Φ) : Go E Y al R cs ss pc L (.long y :: .long x :: st) M Φ :=
  fun p e s m args below meth c D kc ad A H locs ls Q X => lv_ladd X.1.1 X.1.2.1 d (k p e s m args below meth c D kc ad A H locs ls Q X)
theorem go_lsub {x y : Int64} (d : decode Y.2.1 pc = .ok (.lsub, 1)) (k : Go E Y al R cs ss (pc + 1) L (.long (x - y) :: st) M Φ) : Go E Y al R cs ss pc L (.long y :: .long x :: st) M Φ :=
  fun p e s m args below meth c D kc ad A H locs ls Q X => lv_lsub X.1.1 X.1.2.1 d (k p e s m args below meth c D kc ad A H locs ls Q X)
theorem go_land {x y : Int64} (d : decode Y.2.1 pc = .ok (.land, 1)) (k : Go E Y al R cs ss (pc + 1) L (.long (x &&& y) :: st) M Φ) : Go E Y al R cs ss pc L (.long y :: .long x :: st) M Φ :=
  fun p e s m args below meth c D kc ad A H locs ls Q X => lv_land X.1.1 X.1.2.1 d (k p e s m args below meth c D kc ad A H locs ls Q X)
theorem go_lor {x y : Int64} (d : decode Y.2.1 pc = .ok (.lor, 1)) (k : Go E Y al R cs ss (pc + 1) L (.long (x ||| y) :: st) M Φ) : Go E Y al R cs ss pc L (.long y :: .long x :: st) M Φ :=
  fun p e s m args below meth c D kc ad A H locs ls Q X => lv_lor X.1.1 X.1.2.1 d (k p e s m args below meth c D kc ad A H locs ls Q X)
theorem go_lshl {x : Int64} {y : Int32} (d : decode Y.2.1 pc = .ok (.lshl, 1)) (k : Go E Y al R cs ss (pc + 1) L (.long (x <<< (y.toInt64 &&& 63)) :: st) M Φ) : Go E Y al R cs ss pc L (.int y :: .long x :: st) M Φ :=
  fun p e s m args below meth c D kc ad A H locs ls Q X => lv_lshl X.1.1 X.1.2.1 d rfl (k p e s m args below meth c D kc ad A H locs ls Q X)
theorem go_lshr {x : Int64} {y : Int32} (d : decode Y.2.1 pc = .ok (.lshr, 1)) (k : Go E Y al R cs ss (pc + 1) L (.long (x >>> (y.toInt64 &&& 63)) :: st) M Φ) : Go E Y al R cs ss pc L (.int y :: .long x :: st) M Φ :=
  fun p e s m args below meth c D kc ad A H locs ls Q X => lv_lshr X.1.1 X.1.2.1 d rfl (k p e s m args below meth c D kc ad A H locs ls Q X)
def ushrL (x : Int64) (y : Int32) : Int64 := (x.toUInt64 >>> (y.toInt64.toUInt64 &&& Int64.toUInt64 63)).toInt64
theorem go_lushr {x : Int64} {y : Int32} (d : decode Y.2.1 pc = .ok (.lushr, 1)) (k : Go E Y al R cs ss (pc + 1) L (.long (ushrL x y) :: st) M Φ) : Go E Y al R cs ss pc L (.int y :: .long x :: st) M Φ :=
  fun p e s m args below meth c D kc ad A H locs ls Q X => lv_lushr X.1.1 X.1.2.1 d rfl (k p e s m args below meth c D kc ad A H locs ls Q X)
theorem go_i2l {x : Int32} (d : decode Y.2.1 pc = .ok (.i2l, 1)) (k : Go E Y al R cs ss (pc + 1) L (.long x.toInt64 :: st) M Φ) : Go E Y al R cs ss pc L (.int x :: st) M Φ :=
  fun p e s m args below meth c D kc ad A H locs ls Q X => lv_i2l X.1.1 X.1.2.1 d rfl (k p e s m args below meth c D kc ad A H locs ls Q X)
theorem go_l2i {x : Int64} (d : decode Y.2.1 pc = .ok (.l2i, 1)) (k : Go E Y al R cs ss (pc + 1) L (.int x.toInt32 :: st) M Φ) : Go E Y al R cs ss pc L (.long x :: st) M Φ :=
  fun p e s m args below meth c D kc ad A H locs ls Q X => lv_l2i X.1.1 X.1.2.1 d rfl (k p e s m args below meth c D kc ad A H locs ls Q X)
theorem go_dup {va : Value} (d : decode Y.2.1 pc = .ok (.dup, 1)) (hva : va.category = 1) (k : Go E Y al R cs ss (pc + 1) L (va :: va :: st) M Φ) : Go E Y al R cs ss pc L (va :: st) M Φ :=
  fun p e s m args below meth c D kc ad A H locs ls Q X => lv_dup X.1.1 X.1.2.1 d ((gv_cat _ _).trans hva) (k p e s m args below meth c D kc ad A H locs ls Q X)
theorem go_pop {va : Value} (d : decode Y.2.1 pc = .ok (.pop, 1)) (hva : va.category = 1) (k : Go E Y al R cs ss (pc + 1) L (st) M Φ) : Go E Y al R cs ss pc L (va :: st) M Φ :=
  fun p e s m args below meth c D kc ad A H locs ls Q X => lv_pop X.1.1 X.1.2.1 d ((gv_cat _ _).trans hva) (k p e s m args below meth c D kc ad A H locs ls Q X)
theorem go_dup_x1 {va vb : Value} (d : decode Y.2.1 pc = .ok (.dup_x1, 1)) (hva : va.category = 1) (hvb : vb.category = 1) (k : Go E Y al R cs ss (pc + 1) L (va :: vb :: va :: st) M Φ) : Go E Y al R cs ss pc L (va :: vb :: st) M Φ :=
  fun p e s m args below meth c D kc ad A H locs ls Q X => lv_dup_x1 X.1.1 X.1.2.1 d ((gv_cat _ _).trans hva) ((gv_cat _ _).trans hvb) (k p e s m args below meth c D kc ad A H locs ls Q X)
theorem go_dup_x2 {va vb vd : Value} (d : decode Y.2.1 pc = .ok (.dup_x2, 1)) (hva : va.category = 1) (hvb : vb.category = 1) (hvd : vd.category = 1) (k : Go E Y al R cs ss (pc + 1) L (va :: vb :: vd :: va :: st) M Φ) : Go E Y al R cs ss pc L (va :: vb :: vd :: st) M Φ :=
  fun p e s m args below meth c D kc ad A H locs ls Q X => lv_dup_x2 X.1.1 X.1.2.1 d ((gv_cat _ _).trans hva) ((gv_cat _ _).trans hvb) ((gv_cat _ _).trans hvd) (k p e s m args below meth c D kc ad A H locs ls Q X)
theorem go_dup2 {va vb : Value} (d : decode Y.2.1 pc = .ok (.dup2, 1)) (hva : va.category = 1) (hvb : vb.category = 1) (k : Go E Y al R cs ss (pc + 1) L (va :: vb :: va :: vb :: st) M Φ) : Go E Y al R cs ss pc L (va :: vb :: st) M Φ :=
  fun p e s m args below meth c D kc ad A H locs ls Q X => lv_dup2_11 X.1.1 X.1.2.1 d ((gv_cat _ _).trans hva) ((gv_cat _ _).trans hvb) (k p e s m args below meth c D kc ad A H locs ls Q X)
theorem go_dup2_2 {va : Value} (d : decode Y.2.1 pc = .ok (.dup2, 1)) (hva : va.category = 2) (k : Go E Y al R cs ss (pc + 1) L (va :: va :: st) M Φ) : Go E Y al R cs ss pc L (va :: st) M Φ :=
  fun p e s m args below meth c D kc ad A H locs ls Q X => lv_dup2_2 X.1.1 X.1.2.1 d ((gv_cat _ _).trans hva) (k p e s m args below meth c D kc ad A H locs ls Q X)
theorem go_if_eq {x : Int32} {off : Int} {tgt : Nat} (d : decode Y.2.1 pc = .ok (.ifCond .eq off, 3)) (ht : (pc : Int) + off = (tgt : Int)) (kt : x = 0 → Go E Y al R cs ss tgt L st M Φ) (kf : ¬ x = 0 → Go E Y al R cs ss (pc + 3) L st M Φ) : Go E Y al R cs ss pc L (.int x :: st) M Φ :=
  fun p e s m args below meth c D kc ad A H locs ls Q X => lv_if_eq X.1.1 X.1.2.1 d ht (fun h => kt h p e s m args below meth c D kc ad A H locs ls Q X) (fun h => kf h p e s m args below meth c D kc ad A H locs ls Q X)
theorem go_icmp_eq {x y : Int32} {off : Int} {tgt : Nat} (d : decode Y.2.1 pc = .ok (.if_icmp .eq off, 3)) (ht : (pc : Int) + off = (tgt : Int)) (kt : x = y → Go E Y al R cs ss tgt L st M Φ) (kf : ¬ x = y → Go E Y al R cs ss (pc + 3) L st M Φ) : Go E Y al R cs ss pc L (.int y :: .int x :: st) M Φ :=
  fun p e s m args below meth c D kc ad A H locs ls Q X => lv_icmp_eq X.1.1 X.1.2.1 d ht (fun h => kt h p e s m args below meth c D kc ad A H locs ls Q X) (fun h => kf h p e s m args below meth c D kc ad A H locs ls Q X)
theorem go_if_ne {x : Int32} {off : Int} {tgt : Nat} (d : decode Y.2.1 pc = .ok (.ifCond .ne off, 3)) (ht : (pc : Int) + off = (tgt : Int)) (kt : ¬ x = 0 → Go E Y al R cs ss tgt L st M Φ) (kf : x = 0 → Go E Y al R cs ss (pc + 3) L st M Φ) : Go E Y al R cs ss pc L (.int x :: st) M Φ :=
  fun p e s m args below meth c D kc ad A H locs ls Q X => lv_if_ne X.1.1 X.1.2.1 d ht (fun h => kt h p e s m args below meth c D kc ad A H locs ls Q X) (fun h => kf h p e s m args below meth c D kc ad A H locs ls Q X)
theorem go_icmp_ne {x y : Int32} {off : Int} {tgt : Nat} (d : decode Y.2.1 pc = .ok (.if_icmp .ne off, 3)) (ht : (pc : Int) + off = (tgt : Int)) (kt : ¬ x = y → Go E Y al R cs ss tgt L st M Φ) (kf : x = y → Go E Y al R cs ss (pc + 3) L st M Φ) : Go E Y al R cs ss pc L (.int y :: .int x :: st) M Φ :=
  fun p e s m args below meth c D kc ad A H locs ls Q X => lv_icmp_ne X.1.1 X.1.2.1 d ht (fun h => kt h p e s m args below meth c D kc ad A H locs ls Q X) (fun h => kf h p e s m args below meth c D kc ad A H locs ls Q X)
theorem go_if_lt {x : Int32} {off : Int} {tgt : Nat} (d : decode Y.2.1 pc = .ok (.ifCond .lt off, 3)) (ht : (pc : Int) + off = (tgt : Int)) (kt : x < 0 → Go E Y al R cs ss tgt L st M Φ) (kf : ¬ x < 0 → Go E Y al R cs ss (pc + 3) L st M Φ) : Go E Y al R cs ss pc L (.int x :: st) M Φ :=
  fun p e s m args below meth c D kc ad A H locs ls Q X => lv_if_lt X.1.1 X.1.2.1 d ht (fun h => kt h p e s m args below meth c D kc ad A H locs ls Q X) (fun h => kf h p e s m args below meth c D kc ad A H locs ls Q X)
theorem go_icmp_lt {x y : Int32} {off : Int} {tgt : Nat} (d : decode Y.2.1 pc = .ok (.if_icmp .lt off, 3)) (ht : (pc : Int) + off = (tgt : Int)) (kt : x < y → Go E Y al R cs ss tgt L st M Φ) (kf : ¬ x < y → Go E Y al R cs ss (pc + 3) L st M Φ) : Go E Y al R cs ss pc L (.int y :: .int x :: st) M Φ :=
  fun p e s m args below meth c D kc ad A H locs ls Q X => lv_icmp_lt X.1.1 X.1.2.1 d ht (fun h => kt h p e s m args below meth c D kc ad A H locs ls Q X) (fun h => kf h p e s m args below meth c D kc ad A H locs ls Q X)
theorem go_if_ge {x : Int32} {off : Int} {tgt : Nat} (d : decode Y.2.1 pc = .ok (.ifCond .ge off, 3)) (ht : (pc : Int) + off = (tgt : Int)) (kt : 0 ≤ x → Go E Y al R cs ss tgt L st M Φ) (kf : ¬ 0 ≤ x → Go E Y al R cs ss (pc + 3) L st M Φ) : Go E Y al R cs ss pc L (.int x :: st) M Φ :=
  fun p e s m args below meth c D kc ad A H locs ls Q X => lv_if_ge X.1.1 X.1.2.1 d ht (fun h => kt h p e s m args below meth c D kc ad A H locs ls Q X) (fun h => kf h p e s m args below meth c D kc ad A H locs ls Q X)
theorem go_icmp_ge {x y : Int32} {off : Int} {tgt : Nat} (d : decode Y.2.1 pc = .ok (.if_icmp .ge off, 3)) (ht : (pc : Int) + off = (tgt : Int)) (kt : y ≤ x → Go E Y al R cs ss tgt L st M Φ) (kf : ¬ y ≤ x → Go E Y al R cs ss (pc + 3) L st M Φ) : Go E Y al R cs ss pc L (.int y :: .int x :: st) M Φ :=
  fun p e s m args below meth c D kc ad A H locs ls Q X => lv_icmp_ge X.1.1 X.1.2.1 d ht (fun h => kt h p e s m args below meth c D kc ad A H locs ls Q X) (fun h => kf h p e s m args below meth c D kc ad A H locs ls Q X)
theorem go_if_gt {x : Int32} {off : Int} {tgt : Nat} (d : decode Y.2.1 pc = .ok (.ifCond .gt off, 3)) (ht : (pc : Int) + off = (tgt : Int)) (kt : 0 < x → Go E Y al R cs ss tgt L st M Φ) (kf : ¬ 0 < x → Go E Y al R cs ss (pc + 3) L st M Φ) : Go E Y al R cs ss pc L (.int x :: st) M Φ :=
  fun p e s m args below meth c D kc ad A H locs ls Q X => lv_if_gt X.1.1 X.1.2.1 d ht (fun h => kt h p e s m args below meth c D kc ad A H locs ls Q X) (fun h => kf h p e s m args below meth c D kc ad A H locs ls Q X)
theorem go_icmp_gt {x y : Int32} {off : Int} {tgt : Nat} (d : decode Y.2.1 pc = .ok (.if_icmp .gt off, 3)) (ht : (pc : Int) + off = (tgt : Int)) (kt : y < x → Go E Y al R cs ss tgt L st M Φ) (kf : ¬ y < x → Go E Y al R cs ss (pc + 3) L st M Φ) : Go E Y al R cs ss pc L (.int y :: .int x :: st) M Φ :=
  fun p e s m args below meth c D kc ad A H locs ls Q X => lv_icmp_gt X.1.1 X.1.2.1 d ht (fun h => kt h p e s m args below meth c D kc ad A H locs ls Q X) (fun h => kf h p e s m args below meth c D kc ad A H locs ls Q X)
theorem go_if_le {x : Int32} {off : Int} {tgt : Nat} (d : decode Y.2.1 pc = .ok (.ifCond .le off, 3)) (ht : (pc : Int) + off = (tgt : Int)) (kt : x ≤ 0 → Go E Y al R cs ss tgt L st M Φ) (kf : ¬ x ≤ 0 → Go E Y al R cs ss (pc + 3) L st M Φ) : Go E Y al R cs ss pc L (.int x :: st) M Φ :=
  fun p e s m args below meth c D kc ad A H locs ls Q X => lv_if_le X.1.1 X.1.2.1 d ht (fun h => kt h p e s m args below meth c D kc ad A H locs ls Q X) (fun h => kf h p e s m args below meth c D kc ad A H locs ls Q X)
theorem go_icmp_le {x y : Int32} {off : Int} {tgt : Nat} (d : decode Y.2.1 pc = .ok (.if_icmp .le off, 3)) (ht : (pc : Int) + off = (tgt : Int)) (kt : x ≤ y → Go E Y al R cs ss tgt L st M Φ) (kf : ¬ x ≤ y → Go E Y al R cs ss (pc + 3) L st M Φ) : Go E Y al R cs ss pc L (.int y :: .int x :: st) M Φ :=
  fun p e s m args below meth c D kc ad A H locs ls Q X => lv_icmp_le X.1.1 X.1.2.1 d ht (fun h => kt h p e s m args below meth c D kc ad A H locs ls Q X) (fun h => kf h p e s m args below meth c D kc ad A H locs ls Q X)
theorem go_goto {off : Int} {tgt : Nat} (d : decode Y.2.1 pc = .ok (.goto off, 3)) (ht : (pc : Int) + off = (tgt : Int)) (k : Go E Y al R cs ss tgt L st M Φ) : Go E Y al R cs ss pc L st M Φ :=
  fun p e s m args below meth c D kc ad A H locs ls Q X => lv_goto X.1.1 X.1.2.1 d ht (k p e s m args below meth c D kc ad A H locs ls Q X)
theorem go_tableIn {dflt lo hi : Int} {offs : Array Int} {len : Nat} {x : Int32} {off : Int} {tgt : Nat} (d : decode Y.2.1 pc = .ok (.tableswitch dflt lo hi offs, len)) (h1 : ¬ x.toInt < lo) (h2 : ¬ hi < x.toInt) (ho : offs[(x.toInt - lo).toNat]? = some off) (ht : (pc : Int) + off = (tgt : Int)) (k : Go E Y al R cs ss tgt L st M Φ) : Go E Y al R cs ss pc L (.int x :: st) M Φ :=
  fun p e s m args below meth c D kc ad A H locs ls Q X => lv_tableIn X.1.1 X.1.2.1 d h1 h2 ho ht (k p e s m args below meth c D kc ad A H locs ls Q X)
theorem go_tableOut {dflt lo hi : Int} {offs : Array Int} {len : Nat} {x : Int32} {tgt : Nat} (d : decode Y.2.1 pc = .ok (.tableswitch dflt lo hi offs, len)) (h : x.toInt < lo ∨ hi < x.toInt) (ht : (pc : Int) + dflt = (tgt : Int)) (k : Go E Y al R cs ss tgt L st M Φ) : Go E Y al R cs ss pc L (.int x :: st) M Φ :=
  fun p e s m args below meth c D kc ad A H locs ls Q X => lv_tableOut X.1.1 X.1.2.1 d h ht (k p e s m args below meth c D kc ad A H locs ls Q X)
theorem go_lookup {dflt : Int} {ps : Array (Int × Int)} {len : Nat} {x : Int32} {off : Int} {tgt : Nat} (d : decode Y.2.1 pc = .ok (.lookupswitch dflt ps, len)) (hp : (ps.toList.zip (ps.toList.drop 1)).all (fun (a, next) => a.1 < next.1) = true) (ho : Op.lookupswitch.offset ps.toList dflt x.toInt = off) (ht : (pc : Int) + off = (tgt : Int)) (k : Go E Y al R cs ss tgt L st M Φ) : Go E Y al R cs ss pc L (.int x :: st) M Φ :=
  fun p e s m args below meth c D kc ad A H locs ls Q X => lv_lookup X.1.1 X.1.2.1 d hp ho ht (k p e s m args below meth c D kc ad A H locs ls Q X)
theorem go_ldc {index : Nat} {v : Int32} (hc : gin (Jvm.Cond.constant Y.1.cls index v)) (d : decode Y.2.1 pc = .ok (.ldc index, 2)) (k : Go E Y al R cs ss (pc + 2) L (.int v :: st) M Φ) : Go E Y al R cs ss pc L st M Φ :=
  fun p e s m args below meth c D kc ad A H locs ls Q X => lv_ldc X.1.1 X.1.2.1 X.1.2.2.2.2.2.1 (X.1.2.2.2.2.2.2.1 _ hc) d (k p e s m args below meth c D kc ad A H locs ls Q X)
theorem go_ldc2 {index : Nat} {v : Int64} (hc : gin (Jvm.Cond.constantLong Y.1.cls index v)) (d : decode Y.2.1 pc = .ok (.ldc2_w index, 3)) (k : Go E Y al R cs ss (pc + 3) L (.long v :: st) M Φ) : Go E Y al R cs ss pc L st M Φ :=
  fun p e s m args below meth c D kc ad A H locs ls Q X => lv_ldc2 X.1.1 X.1.2.1 X.1.2.2.2.2.2.1 (X.1.2.2.2.2.2.2.1 _ hc) d (k p e s m args below meth c D kc ad A H locs ls Q X)
theorem go_lcmp {x y : Int64} (d : decode Y.2.1 pc = .ok (.lcmp, 1)) (k : Go E Y al R cs ss (pc + 1) L (.int (lg_cmp x y) :: st) M Φ) : Go E Y al R cs ss pc L (.long y :: .long x :: st) M Φ :=
  fun p e s m args below meth c D kc ad A H locs ls Q X => W.lcmp X.1.1 X.1.2.1 d (k p e s m args below meth c D kc ad A H locs ls Q X)
theorem Wd.moved {D : va_G} {kc : Nat → ClassId} {ad : Nat → Nat} {M : List AE} {u U : State} {H : Heap} (hvm : u.vm.Alike U.vm) (h : Wd D kc ad M u H) : Wd D kc ad M U H := ⟨h.1, va_K.moved hvm h.2.1, fun k t a hk => va_K.moved hvm (h.2.2 k t a hk)⟩
theorem Wd.put {D : va_G} {kc : Nat → ClassId} {ad : Nat → Nat} {M : List AE} {s : State} {H H1 : Heap} {k : Nat} {e : AE} (h : Wd D kc ad M s H) (ht : ∀ t a, e = .inl (t, a) → ∃ a0, M[k]? = some (.inl (t, a0))) (hP : va_P D gcl ((gw kc ad 0 M).set k (ad k, ge (kc k) ad e)) H1) : Wd D kc ad (M.set k e) s H1 := by
  refine ⟨by rw [gw_set0]; exact hP, h.2.1, fun k' t a hk => ?_⟩
  by_cases hkk : k = k'
  · subst hkk
    rw [List.getElem?_set] at hk
    simp only [if_true] at hk
    split at hk
    · cases hk
      obtain ⟨a0, h0⟩ := ht t a rfl
      exact h.2.2 k t a0 h0
    · cases hk
  · rw [List.getElem?_set_ne hkk] at hk
    exact h.2.2 k' t a hk
theorem Sta.moved {ad : Nat → Nat} {A : Nat → Prop} {u U : State} {H : Heap} (hvm : u.vm.Alike U.vm) (h : Sta mT ad A u H) : Sta mT ad A U H := ⟨fun i hi => ⟨(h.1 i hi).1.moved hvm, (h.1 i hi).2.moved hvm⟩, trivial⟩
/-- the context behind a change of one cell -/
theorem Cx.put {p : Program} {e : Env} {s : State} {m : MethodId} {args : Array Value} {below : List Frame} {meth : Method} {c : Code} {D : va_G} {kc : Nat → ClassId} {ad : Nat → Nat} {A : Nat → Prop} {H H1 : Heap} {locs locs1 : List Loc} {ls : Array Slot} {Q : State → Prop} {k : Nat} {x : AE} (X : Cx E Y al R cs ss L M Φ p e s m args below meth c D kc ad A H locs ls Q) (ht : ∀ t a, x = .inl (t, a) → ∃ a0, M[k]? = some (.inl (t, a0))) (hP : va_P D gcl ((gw kc ad 0 M).set k (ad k, ge (kc k) ad x)) H1) (hD : va_D A ((gw kc ad 0 M).set k (ad k, ge (kc k) ad x))) (hS : va_S A s.heap H1 locs1) : Cx E Y al R cs ss L (M.set k x) Φ p e s m args below meth c D kc ad A H1 locs1 ls Q :=
  ⟨X.1, X.2.1.put ht hP, by rw [gw_set0]; exact hD, hS, X.2.2.2.2.1, X.2.2.2.2.2.1, X.2.2.2.2.2.2.1, X.2.2.2.2.2.2.2.1, X.2.2.2.2.2.2.2.2.1, by rw [List.length_set]; exact X.2.2.2.2.2.2.2.2.2⟩
/-- a field as its users see it: its object's number and place, the words -/
def FL (own : String) (idx ci j : Nat) : Prop := ∃ (C : String) (T : u_T) (N : Nat), gcl[ci]? = some (C, T, N) ∧ (∀ w ∈ u_ws C T N, gin w) ∧ j < N ∧ (gin (.fieldLink own idx (T j).1 (T j).2.1 (T j).2.2.1) ∨ ∃ host, nin (.fieldLinkNest own idx (T j).1 (T j).2.1 (T j).2.2.1 host))
/-- and as it is written: its type; not final, or in the constructor of its own -/
def FP (y : MethodName) (idx ci j : Nat) (ty : FieldType) : Prop := ∃ (C : String) (T : u_T) (N : Nat) (ty0 : Nat → FieldType), gcl[ci]? = some (C, T, N) ∧ (∀ w ∈ u_ws C T N, gin w) ∧ j < N ∧ (∀ k, k < N → parseFieldDescriptor (T k).2.2.1 = some (ty0 k)) ∧ (∀ a, a < N → ∀ b, b < N → a ≠ b → (T a).2.1 ≠ (T b).2.1) ∧ parseFieldDescriptor (T j).2.2.1 = some ty ∧
  ((gin (.fieldLink y.cls idx (T j).1 (T j).2.1 (T j).2.2.1) ∧ ((T j).2.2.2 = false ∨ ((T j).2.2.2 = true ∧ y.name = "<init>" ∧ (T j).1 = y.cls))) ∨ ((T j).2.2.2 = false ∧ ∃ host, nin (.fieldLinkNest y.cls idx (T j).1 (T j).2.1 (T j).2.2.1 host)))
theorem go_get {k ci j idx : Nat} {fs : List Value} {v : Value} (hM : M[k]? = some (.inr (ci, fs))) (hF : FL Y.1.cls idx ci j) (hv : fs[j]? = some v) (d : decode Y.2.1 pc = .ok (.getfield idx, 3)) (kk : Go E Y al R cs ss (pc + 3) L (v :: st) M Φ) : Go E Y al R cs ss pc L (.ref k :: st) M Φ := by
  intro p e s m args below meth c D kc ad A H locs ls Q X
  obtain ⟨C, T, N, hc, hin, hj, hlk⟩ := hF
  have he : (gw kc ad 0 M)[k]? = some (ad k, .inr (ci, fs.map (gv ad))) := gw_at hM
  have hv2 : (fs.map (gv ad))[j]? = some (gv ad v) := by rw [List.getElem?_map, hv]; rfl
  have k2 := kk p e s m args below meth c D kc ad A H locs ls Q X
  have hts : ∀ w ∈ u_ws C T N, w.before args s = true := fun w h => X.1.2.2.2.2.2.2.1 w (hin w h)
  rcases hlk with hlk | ⟨host, hlk⟩
  · exact va_get X.1.1 X.1.2.1 hts (fun _ h => h) X.1.2.2.2.2.2.1 X.2.1.2.1 X.2.1.1 k he hc j hj (X.1.2.2.2.2.2.2.1 _ hlk) (fun _ h => h) hv2 d k2
  · exact va_getN X.1.1 X.1.2.1 hts (fun _ h => h) X.1.2.2.2.2.2.1 X.2.1.2.1 X.2.1.1 k he hc j hj (va_Nw.use rfl (X.1.2.2.2.2.2.2.2.1 _ hlk)) (fun _ h => h) hv2 d k2
theorem go_put {k ci j idx : Nat} {ty : FieldType} {fs : List Value} {v : Value} (hM : M[k]? = some (.inr (ci, fs))) (hF : FP Y.1 idx ci j ty) (hn : ∀ ad, narrow ty (gv ad v) = gv ad v) (hfit : ∀ ad, fits ty (gv ad v) = true) (hl : j < fs.length) (d : decode Y.2.1 pc = .ok (.putfield idx, 3)) (kk : Go E Y al R cs ss (pc + 3) L st (M.set k (.inr (ci, fs.set j v))) Φ) : Go E Y al R cs ss pc L (v :: .ref k :: st) M Φ := by
  intro p e s m args below meth c D kc ad A H locs ls Q X
  obtain ⟨C, T, N, ty0, hc, hin, hj, hty, hnm, hd, hlk⟩ := hF
  have he : (gw kc ad 0 M)[k]? = some (ad k, .inr (ci, fs.map (gv ad))) := gw_at hM
  have hl2 : j < (fs.map (gv ad)).length := by rw [List.length_map]; exact hl
  have hts : ∀ w ∈ u_ws C T N, w.before args s = true := fun w h => X.1.2.2.2.2.2.2.1 w (hin w h)
  have hgo : ∀ (H1 : Heap) (locs1 : List Loc), va_P D gcl ((gw kc ad 0 M).set k (ad k, .inr (ci, (fs.map (gv ad)).set j (gv ad v)))) H1 → va_D A ((gw kc ad 0 M).set k (ad k, .inr (ci, (fs.map (gv ad)).set j (gv ad v)))) → va_S A s.heap H1 locs1 → W p E.1 e R s m args below meth c H1 locs1 cs ss Q (F0 m (pc + 3) ls (st.map (gv ad))) := by
    intro H1 locs1 hP1 hD1 hS1
    have hm : ge (kc k) ad (.inr (ci, fs.set j v)) = .inr (ci, (fs.map (gv ad)).set j (gv ad v)) := by
      show Sum.inr (ci, (fs.set j v).map (gv ad)) = _
      rw [List.map_set]
    exact kk p e s m args below meth c D kc ad A H1 locs1 ls Q (X.put (fun t a h => by cases h) (by rw [hm]; exact hP1) (by rw [hm]; exact hD1) hS1)
  rcases hlk with ⟨hlk, hfin | ⟨hf1, hf2, hf3⟩⟩ | ⟨hfin, host, hlk⟩
  · exact va_put X.1.1 X.1.2.1 hts (fun _ h => h) ty0 hty hnm X.1.2.2.2.2.2.1 X.2.1.2.1 X.2.1.1 X.2.2.1 X.2.2.2.1 k he hc j hj (X.1.2.2.2.2.2.2.1 _ hlk) (fun _ h => h) hfin hd (hn ad) (hfit ad) hl2 d hgo
  · exact va_putF X.1.1 X.1.2.1 hts (fun _ h => h) ty0 hty hnm X.1.2.2.2.2.2.1 X.2.1.2.1 X.2.1.1 X.2.2.1 X.2.2.2.1 k he hc j hj (X.1.2.2.2.2.2.2.1 _ hlk) (fun _ h => h) hf1 (X.1.2.2.2.2.2.2.2.2 hf2) hf3 hd (hn ad) (hfit ad) hl2 d hgo
  · exact va_putN X.1.1 X.1.2.1 hts (fun _ h => h) ty0 hty hnm X.1.2.2.2.2.2.1 X.2.1.2.1 X.2.1.1 X.2.2.1 X.2.2.2.1 k he hc j hj (va_Nw.use rfl (X.1.2.2.2.2.2.2.2.1 _ hlk)) (fun _ h => h) hfin hd (hn ad) (hfit ad) hl2 d hgo
theorem go_iald {k n : Nat} {f : Nat → Int32} {i : Int32} (hM : M[k]? = some (.inl (0, n, .inl f))) (hin : vp_in i n) (d : decode Y.2.1 pc = .ok (.iaload, 1)) (kk : Go E Y al R cs ss (pc + 1) L (.int (f i.toNatClampNeg) :: st) M Φ) : Go E Y al R cs ss pc L (.int i :: .ref k :: st) M Φ :=
  fun p e s m args below meth c D kc ad A H locs ls Q X => va_iald X.1.1 X.1.2.1 (X.2.1.2.2 k 0 _ hM) X.2.1.1 k 0 (gw_at hM) rfl hin d (kk p e s m args below meth c D kc ad A H locs ls Q X)
theorem go_zald {k n : Nat} {f : Nat → Int32} {i : Int32} (hM : M[k]? = some (.inl (1, n, .inl f))) (hin : vp_in i n) (d : decode Y.2.1 pc = .ok (.baload, 1)) (kk : Go E Y al R cs ss (pc + 1) L (.int (f i.toNatClampNeg) :: st) M Φ) : Go E Y al R cs ss pc L (.int i :: .ref k :: st) M Φ :=
  fun p e s m args below meth c D kc ad A H locs ls Q X => va_zald X.1.1 X.1.2.1 (X.2.1.2.2 k 1 _ hM) X.2.1.1 k 0 (gw_at hM) rfl hin d (kk p e s m args below meth c D kc ad A H locs ls Q X)
theorem go_iast {k n : Nat} {f : Nat → Int32} {i x : Int32} (hM : M[k]? = some (.inl (0, n, .inl f))) (hin : vp_in i n) (d : decode Y.2.1 pc = .ok (.iastore, 1)) (kk : Go E Y al R cs ss (pc + 1) L st (M.set k (.inl (0, n, .inl (upd f i.toNatClampNeg x)))) Φ) : Go E Y al R cs ss pc L (.int x :: .int i :: .ref k :: st) M Φ :=
  fun p e s m args below meth c D kc ad A H locs ls Q X => va_iast X.1.1 X.1.2.1 (X.2.1.2.2 k 0 _ hM) X.2.1.1 X.2.2.1 X.2.2.2.1 k 0 (gw_at hM) rfl hin d (fun H1 locs1 hP1 hD1 hS1 => kk p e s m args below meth c D kc ad A H1 locs1 ls Q (X.put (fun t a h => by cases h; exact ⟨_, hM⟩) hP1 hD1 hS1))
theorem go_zast {k n : Nat} {f : Nat → Int32} {i x : Int32} (hM : M[k]? = some (.inl (1, n, .inl f))) (hin : vp_in i n) (d : decode Y.2.1 pc = .ok (.bastore, 1)) (kk : Go E Y al R cs ss (pc + 1) L st (M.set k (.inl (1, n, .inl (upd f i.toNatClampNeg (vp_nar .boolean x))))) Φ) : Go E Y al R cs ss pc L (.int x :: .int i :: .ref k :: st) M Φ :=
  fun p e s m args below meth c D kc ad A H locs ls Q X => va_zast X.1.1 X.1.2.1 (X.2.1.2.2 k 1 _ hM) X.2.1.1 X.2.2.1 X.2.2.2.1 k 0 (gw_at hM) rfl hin d (fun H1 locs1 hP1 hD1 hS1 => kk p e s m args below meth c D kc ad A H1 locs1 ls Q (X.put (fun t a h => by cases h; exact ⟨_, hM⟩) hP1 hD1 hS1))
theorem go_aald {k n t r : Nat} {C : String} {f : Nat → Option Nat} {i : Int32} (hM : M[k]? = some (.inl (t, n, .inr (.inr (.inr (.inr f)))))) (ht : tyk t = .object C) (hin : vp_in i n) (hr : f i.toNatClampNeg = some r) (d : decode Y.2.1 pc = .ok (.aaload, 1)) (kk : Go E Y al R cs ss (pc + 1) L (.ref r :: st) M Φ) : Go E Y al R cs ss pc L (.int i :: .ref k :: st) M Φ := by
  intro p e s m args below meth c D kc ad A H locs ls Q X
  have hK := X.2.1.2.2 k t _ hM
  rw [ht] at hK
  refine va_aldq X.1.1 X.1.2.1 hK X.2.1.1 k 0 (gw_at hM) rfl hin d ?_
  have k2 := kk p e s m args below meth c D kc ad A H locs ls Q X
  show W p E.1 e R s m args below meth c H locs cs ss Q (F0 m (pc + 1) ls (va_rf ((f i.toNatClampNeg).map ad) :: st.map (gv ad)))
  rw [hr]
  exact k2
theorem go_aast {k n t r ci : Nat} {fs : List Value} {C : String} {T : u_T} {N : Nat} {f : Nat → Option Nat} {i : Int32} (hM : M[k]? = some (.inl (t, n, .inr (.inr (.inr (.inr f)))))) (ht : tyk t = .object C) (hr : M[r]? = some (.inr (ci, fs))) (hc : gcl[ci]? = some (C, T, N)) (hin : vp_in i n) (d : decode Y.2.1 pc = .ok (.aastore, 1)) (kk : Go E Y al R cs ss (pc + 1) L st (M.set k (.inl (t, n, .inr (.inr (.inr (.inr (va_up f i.toNatClampNeg (some r)))))))) Φ) : Go E Y al R cs ss pc L (.ref r :: .int i :: .ref k :: st) M Φ := by
  intro p e s m args below meth c D kc ad A H locs ls Q X
  have hK := X.2.1.2.2 k t _ hM
  rw [ht] at hK
  refine va_astq X.1.1 X.1.2.1 hK X.2.1.1 X.2.2.1 X.2.2.2.1 k 0 r ci (r := (C, T, N)) (gw_at hM) rfl (gw_at hr) hc hin d (fun H1 locs1 hP1 hD1 hS1 => ?_)
  have hm : ge (kc k) ad (.inl (t, n, .inr (.inr (.inr (.inr (va_up f i.toNatClampNeg (some r))))))) = .inl (kc k, n, .inr (.inr (.inr (.inr (va_up (fun j => (f j).map ad) i.toNatClampNeg (some (ad r))))))) := by
    show Sum.inl (kc k, n, Sum.inr (Sum.inr (Sum.inr (Sum.inr (fun j => (va_up f i.toNatClampNeg (some r) j).map ad))))) = _
    congr 7
    funext j
    unfold va_up
    split <;> rfl
  exact kk p e s m args below meth c D kc ad A H1 locs1 ls Q (X.put (fun t a h => by cases h; exact ⟨_, hM⟩) (by rw [hm]; exact hP1) (by rw [hm]; exact hD1) hS1)
theorem go_alen {k n t : Nat} {x : (Nat → Int32) ⊕ (Nat → Int64) ⊕ (Nat → UInt32) ⊕ (Nat → UInt64) ⊕ (Nat → Option Nat)} {v : Int32} (hM : M[k]? = some (.inl (t, n, x))) (hv : Int32.ofNat n = v) (d : decode Y.2.1 pc = .ok (.arraylength, 1)) (kk : Go E Y al R cs ss (pc + 1) L (.int v :: st) M Φ) : Go E Y al R cs ss pc L (.ref k :: st) M Φ :=
  fun p e s m args below meth c D kc ad A H locs ls Q X => va_alen X.1.1 X.1.2.1 (X.2.1.2.2 k t _ hM) X.2.1.1 k 0 (gw_at hM) rfl hv d (kk p e s m args below meth c D kc ad A H locs ls Q X)
theorem go_gets {i idx : Nat} (hi : i < 3) (hlk : gin (.fieldLink Y.1.cls idx sta_C (sta_n i) "[I") ∨ ∃ host, nin (.fieldLinkNest Y.1.cls idx sta_C (sta_n i) "[I" host)) (d : decode Y.2.1 pc = .ok (.getstatic idx, 3)) (kk : Go E Y al R cs ss (pc + 3) L (.ref (100000 + i) :: st) M Φ) : Go E Y al R cs ss pc L st M Φ := by
  intro p e s m args below meth c D kc ad A H locs ls Q X
  have k2 := kk p e s m args below meth c D kc ad A H locs ls Q X
  rcases hlk with hlk | ⟨host, hlk⟩
  · exact va_gets X.1.1 X.1.2.1 (X.2.2.2.2.2.1.1 i hi).1 X.2.2.2.1 X.1.2.2.2.2.2.1 (X.1.2.2.2.2.2.2.1 _ hlk) (fun _ h => h) d k2
  · exact va_getsN X.1.1 X.1.2.1 (X.2.2.2.2.2.1.1 i hi).1 X.2.2.2.1 X.1.2.2.2.2.2.1 (va_Nw.use rfl (X.1.2.2.2.2.2.2.2.1 _ hlk)) (fun _ h => h) d k2
theorem go_scr {n : Nat} {xs : Nat → Int32} {i : Int32} (hE : E.2 = scT n xs) (hin : vp_in i n) (d : decode Y.2.1 pc = .ok (.iaload, 1)) (kk : Go E Y al R cs ss (pc + 1) L (.int (xs i.toNatClampNeg) :: st) M Φ) : Go E Y al R cs ss pc L (.int i :: .ref 100003 :: st) M Φ := by
  intro p e s m args below meth c D kc ad A H locs ls Q X
  have h2 := X.2.2.2.2.2.1.2
  rw [hE] at h2
  exact va_sld X.1.1 X.1.2.1 h2.1 h2.2.1 h2.2.2 X.2.2.2.1 hin d (kk p e s m args below meth c D kc ad A H locs ls Q X)
theorem go_scn {n : Nat} {xs : Nat → Int32} (hE : E.2 = scT n xs) (d : decode Y.2.1 pc = .ok (.arraylength, 1)) (kk : Go E Y al R cs ss (pc + 1) L (.int (Int32.ofNat n) :: st) M Φ) : Go E Y al R cs ss pc L (.ref 100003 :: st) M Φ := by
  intro p e s m args below meth c D kc ad A H locs ls Q X
  have h2 := X.2.2.2.2.2.1.2
  rw [hE] at h2
  exact va_slen X.1.1 X.1.2.1 h2.1 h2.2.1 h2.2.2 X.2.2.2.1 d (kk p e s m args below meth c D kc ad A H locs ls Q X)
theorem go_sld {i : Nat} {x : Int32} (hi : i < 3) (hin : vp_in x 25) (d : decode Y.2.1 pc = .ok (.iaload, 1)) (kk : Go E Y al R cs ss (pc + 1) L (.int (sta_v i x.toNatClampNeg) :: st) M Φ) : Go E Y al R cs ss pc L (.int x :: .ref (100000 + i) :: st) M Φ :=
  fun p e s m args below meth c D kc ad A H locs ls Q X => va_ti X.1.1 X.1.2.1 (X.2.2.2.2.2.1.1 i hi).2 X.2.2.2.1 hin rfl d (kk p e s m args below meth c D kc ad A H locs ls Q X)
end GORULES
