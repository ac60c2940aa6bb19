/-! The memory of the running system: every cell has its shape, which no call changes; its numbers are functions. -/
abbrev Mu : Type := (Nat → Nat → Int32) × (Nat → Nat → Int32) × (Nat → Int64)
abbrev Sh : Type := (Nat × Nat × List (Option Nat)) ⊕ (Nat × List (Nat ⊕ Nat))
def shapes : List Sh := [.inr (5, [.inl 0, .inr 1, .inr 2, .inl 0, .inl 0]),
  .inl (2, 4, [some 3, some 8, some 13, some 18]),
  .inl (3, 4, [some 23, some 40, some 57, some 74]),
  .inr (2, [.inr 4, .inr 5, .inr 6, .inr 7, .inl 0, .inl 0, .inl 0]),
  .inl (0, 24, []),
  .inl (0, 24, []),
  .inl (0, 24, []),
  .inl (0, 24, []),
  .inr (2, [.inr 9, .inr 10, .inr 11, .inr 12, .inl 0, .inl 0, .inl 0]),
  .inl (0, 24, []),
  .inl (0, 24, []),
  .inl (0, 24, []),
  .inl (0, 24, []),
  .inr (2, [.inr 14, .inr 15, .inr 16, .inr 17, .inl 0, .inl 0, .inl 0]),
  .inl (0, 24, []),
  .inl (0, 24, []),
  .inl (0, 24, []),
  .inl (0, 24, []),
  .inr (2, [.inr 19, .inr 20, .inr 21, .inr 22, .inl 0, .inl 0, .inl 0]),
  .inl (0, 24, []),
  .inl (0, 24, []),
  .inl (0, 24, []),
  .inl (0, 24, []),
  .inr (4, [.inr 24, .inr 29, .inr 32, .inr 33, .inr 35, .inr 37, .inr 39, .inl 0, .inl 0, .inl 0, .inl 0, .inl 0, .inl 0]),
  .inr (0, [.inr 25, .inr 26, .inr 27, .inr 28, .inl 1, .inl 0, .inl 0]),
  .inl (0, 33, []),
  .inl (0, 33, []),
  .inl (0, 33, []),
  .inl (0, 33, []),
  .inr (3, [.inr 30, .inr 31, .inl 0]),
  .inl (0, 6, []),
  .inl (1, 6, []),
  .inl (0, 4, []),
  .inr (1, [.inr 34, .inl 0]),
  .inl (0, 4, []),
  .inr (1, [.inr 36, .inl 0]),
  .inl (0, 8, []),
  .inr (1, [.inr 38, .inl 0]),
  .inl (0, 16, []),
  .inl (0, 4, []),
  .inr (4, [.inr 41, .inr 46, .inr 49, .inr 50, .inr 52, .inr 54, .inr 56, .inl 0, .inl 0, .inl 0, .inl 0, .inl 0, .inl 0]),
  .inr (0, [.inr 42, .inr 43, .inr 44, .inr 45, .inl 1, .inl 0, .inl 0]),
  .inl (0, 33, []),
  .inl (0, 33, []),
  .inl (0, 33, []),
  .inl (0, 33, []),
  .inr (3, [.inr 47, .inr 48, .inl 0]),
  .inl (0, 6, []),
  .inl (1, 6, []),
  .inl (0, 4, []),
  .inr (1, [.inr 51, .inl 0]),
  .inl (0, 4, []),
  .inr (1, [.inr 53, .inl 0]),
  .inl (0, 8, []),
  .inr (1, [.inr 55, .inl 0]),
  .inl (0, 16, []),
  .inl (0, 4, []),
  .inr (4, [.inr 58, .inr 63, .inr 66, .inr 67, .inr 69, .inr 71, .inr 73, .inl 0, .inl 0, .inl 0, .inl 0, .inl 0, .inl 0]),
  .inr (0, [.inr 59, .inr 60, .inr 61, .inr 62, .inl 1, .inl 0, .inl 0]),
  .inl (0, 33, []),
  .inl (0, 33, []),
  .inl (0, 33, []),
  .inl (0, 33, []),
  .inr (3, [.inr 64, .inr 65, .inl 0]),
  .inl (0, 6, []),
  .inl (1, 6, []),
  .inl (0, 4, []),
  .inr (1, [.inr 68, .inl 0]),
  .inl (0, 4, []),
  .inr (1, [.inr 70, .inl 0]),
  .inl (0, 8, []),
  .inr (1, [.inr 72, .inl 0]),
  .inl (0, 16, []),
  .inl (0, 4, []),
  .inr (4, [.inr 75, .inr 80, .inr 83, .inr 84, .inr 86, .inr 88, .inr 90, .inl 0, .inl 0, .inl 0, .inl 0, .inl 0, .inl 0]),
  .inr (0, [.inr 76, .inr 77, .inr 78, .inr 79, .inl 1, .inl 0, .inl 0]),
  .inl (0, 33, []),
  .inl (0, 33, []),
  .inl (0, 33, []),
  .inl (0, 33, []),
  .inr (3, [.inr 81, .inr 82, .inl 0]),
  .inl (0, 6, []),
  .inl (1, 6, []),
  .inl (0, 4, []),
  .inr (1, [.inr 85, .inl 0]),
  .inl (0, 4, []),
  .inr (1, [.inr 87, .inl 0]),
  .inl (0, 8, []),
  .inr (1, [.inr 89, .inl 0]),
  .inl (0, 16, []),
  .inl (0, 4, []),
  .inr (6, [.inl 0, .inr 92, .inr 93, .inr 94, .inr 95, .inr 96, .inr 97, .inr 98, .inr 99, .inr 100, .inl 0, .inr 101, .inr 102, .inr 103, .inr 104, .inr 105, .inr 106, .inr 107, .inr 108, .inr 109, .inr 110, .inr 111, .inr 112, .inr 113, .inr 114, .inr 115, .inr 116, .inr 117, .inr 118, .inr 119, .inr 120, .inr 121, .inl 0]),
  .inl (0, 96, []),
  .inl (0, 96, []),
  .inl (0, 96, []),
  .inl (0, 4, []),
  .inl (1, 4, []),
  .inl (1, 104, []),
  .inl (0, 104, []),
  .inl (0, 104, []),
  .inl (0, 104, []),
  .inl (1, 104, []),
  .inl (1, 104, []),
  .inl (0, 104, []),
  .inl (0, 4, []),
  .inl (0, 4, []),
  .inl (0, 4, []),
  .inl (0, 4, []),
  .inl (0, 4, []),
  .inl (0, 4, []),
  .inl (0, 4, []),
  .inl (0, 4, []),
  .inl (0, 4, []),
  .inl (0, 24, []),
  .inl (0, 16, []),
  .inl (0, 16, []),
  .inl (0, 4, []),
  .inl (0, 32, []),
  .inl (0, 4, []),
  .inl (0, 64, []),
  .inl (0, 4, []),
  .inl (0, 16, [])]
def fcel (μ : Mu) (k : Nat) : Nat → List (Nat ⊕ Nat) → List Value
  | _, [] => []
  | j, .inl 0 :: r => .int (μ.1 k j) :: fcel μ k (j + 1) r
  | j, .inl (_ + 1) :: r => .long (μ.2.2 k) :: fcel μ k (j + 1) r
  | j, .inr x :: r => .ref x :: fcel μ k (j + 1) r
def cel (μ : Mu) (k : Nat) (sh : Sh) : AE := match sh with
  | .inl (0, n, _) => .inl (0, n, .inl (μ.2.1 k))
  | .inl (1, n, _) => .inl (1, n, .inl (μ.2.1 k))
  | .inl (t + 2, n, rs) => .inl (t + 2, n, .inr (.inr (.inr (.inr (fun j => rs.getD j none)))))
  | .inr (ci, fl) => .inr (ci, fcel μ k 0 fl)
def lay1 (μ : Mu) : Nat → List Sh → List AE
  | _, [] => []
  | k, s :: r => cel μ k s :: lay1 μ (k + 1) r
theorem lay1_get (μ : Mu) : ∀ (S : List Sh) (i k : Nat), (lay1 μ i S)[k]? = (S[k]?).map (cel μ (i + k))
  | [], i, k => by simp [lay1]
  | s :: S, i, 0 => by simp [lay1]
  | s :: S, i, k + 1 => by
    simp only [lay1, List.getElem?_cons_succ]
    rw [lay1_get μ S (i + 1) k, show i + 1 + k = i + (k + 1) by omega]
theorem lay1_len (μ : Mu) : ∀ (S : List Sh) (i : Nat), (lay1 μ i S).length = S.length
  | [], i => rfl
  | s :: S, i => by simp only [lay1, List.length_cons, lay1_len μ S (i + 1)]
theorem lay1_put (μ μ' : Mu) (S : List Sh) (k : Nat) (sh : Sh) (e : AE) (hs : S[k]? = some sh) (hμ : ∀ k', k' ≠ k → ∀ x, cel μ' k' x = cel μ k' x) (he : e = cel μ' k sh) : (lay1 μ 0 S).set k e = lay1 μ' 0 S := by
  apply List.ext_getElem?
  intro j
  rw [lay1_get, Nat.zero_add]
  by_cases hj : k = j
  · subst hj
    rw [hs, List.getElem?_set]
    simp only [if_true]
    have hk : k < S.length := (List.getElem?_eq_some_iff.mp hs).1
    rw [lay1_len, if_pos hk, he]
    rfl
  · rw [List.getElem?_set_ne hj, lay1_get, Nat.zero_add]
    cases S[j]? with
    | none => rfl
    | some x => rw [Option.map_some, Option.map_some, hμ j (fun h => hj h.symm) x]
def lay (μ : Mu) : List AE := lay1 μ 0 shapes
theorem lay_at {μ : Mu} {k : Nat} {sh : Sh} (h : shapes[k]? = some sh) : (lay μ)[k]? = some (cel μ k sh) := by
  unfold lay
  rw [lay1_get, h, Nat.zero_add]
  rfl
def setF (μ : Mu) (k j : Nat) (v : Int32) : Mu := (fun a b => if a = k ∧ b = j then v else μ.1 a b, μ.2.1, μ.2.2)
def setA (μ : Mu) (k i : Nat) (v : Int32) : Mu := (μ.1, fun a b => if a = k ∧ b = i then v else μ.2.1 a b, μ.2.2)
def setG (μ : Mu) (k : Nat) (f : Nat → Int32) : Mu := (μ.1, fun a => if a = k then f else μ.2.1 a, μ.2.2)
def setJ (μ : Mu) (k : Nat) (v : Int64) : Mu := (μ.1, μ.2.1, fun a => if a = k then v else μ.2.2 a)
theorem fcel_len (μ : Mu) (k : Nat) : ∀ (fl : List (Nat ⊕ Nat)) (i : Nat), (fcel μ k i fl).length = fl.length
  | [], i => rfl
  | .inl 0 :: r, i => by simp only [fcel, List.length_cons, fcel_len μ k r (i + 1)]
  | .inl (_ + 1) :: r, i => by simp only [fcel, List.length_cons, fcel_len μ k r (i + 1)]
  | .inr x :: r, i => by simp only [fcel, List.length_cons, fcel_len μ k r (i + 1)]
theorem fcel_getI (μ : Mu) (k : Nat) : ∀ (fl : List (Nat ⊕ Nat)) (i j : Nat), fl[j]? = some (.inl 0) → (fcel μ k i fl)[j]? = some (.int (μ.1 k (i + j)))
  | [], i, j, h => by simp at h
  | x :: r, i, 0, h => by
    simp only [List.getElem?_cons_zero, Option.some.injEq] at h
    subst h
    simp [fcel]
  | x :: r, i, j + 1, h => by
    have h2 := fcel_getI μ k r (i + 1) j (by simpa using h)
    rw [show i + 1 + j = i + (j + 1) by omega] at h2
    match x with
    | .inl 0 => simpa [fcel] using h2
    | .inl (_ + 1) => simpa [fcel] using h2
    | .inr y => simpa [fcel] using h2
theorem fcel_getJ (μ : Mu) (k : Nat) : ∀ (fl : List (Nat ⊕ Nat)) (i j : Nat), fl[j]? = some (.inl 1) → (fcel μ k i fl)[j]? = some (.long (μ.2.2 k))
  | [], i, j, h => by simp at h
  | x :: r, i, 0, h => by
    simp only [List.getElem?_cons_zero, Option.some.injEq] at h
    subst h
    simp [fcel]
  | x :: r, i, j + 1, h => by
    have h2 := fcel_getJ μ k r (i + 1) j (by simpa using h)
    match x with
    | .inl 0 => simpa [fcel] using h2
    | .inl (_ + 1) => simpa [fcel] using h2
    | .inr y => simpa [fcel] using h2
theorem fcel_getR (μ : Mu) (k : Nat) {z : Nat} : ∀ (fl : List (Nat ⊕ Nat)) (i j : Nat), fl[j]? = some (.inr z) → (fcel μ k i fl)[j]? = some (.ref z)
  | [], i, j, h => by simp at h
  | x :: r, i, 0, h => by
    simp only [List.getElem?_cons_zero, Option.some.injEq] at h
    subst h
    simp [fcel]
  | x :: r, i, j + 1, h => by
    have h2 := fcel_getR μ k r (i + 1) j (by simpa using h)
    match x with
    | .inl 0 => simpa [fcel] using h2
    | .inl (_ + 1) => simpa [fcel] using h2
    | .inr y => simpa [fcel] using h2
/-- two memories that differ in one number of a cell -/
theorem fcel_set (μ μ' : Mu) (k : Nat) (v : Value) : ∀ (fl : List (Nat ⊕ Nat)) (i j : Nat), (fcel μ' k i fl)[j]? = some v → (∀ j', j' ≠ j → (fcel μ' k i fl)[j']? = (fcel μ k i fl)[j']?) → (fcel μ k i fl).set j v = fcel μ' k i fl := by
  intro fl i j h1 h2
  apply List.ext_getElem?
  intro j'
  by_cases hj : j = j'
  · subst hj
    rw [List.getElem?_set]
    simp only [if_true]
    have hl : j < (fcel μ k i fl).length := by
      rw [fcel_len, ← fcel_len μ' k fl i]
      exact (List.getElem?_eq_some_iff.mp h1).1
    rw [if_pos hl, h1]
  · rw [List.getElem?_set_ne hj, h2 j' (fun h => hj h.symm)]
theorem fcel_same (μ μ' : Mu) (k : Nat) : ∀ (fl : List (Nat ⊕ Nat)) (i j : Nat), (fl[j]? = some (.inl 0) → μ'.1 k (i + j) = μ.1 k (i + j)) → ((∃ n, fl[j]? = some (.inl (n + 1))) → μ'.2.2 k = μ.2.2 k) → (fcel μ' k i fl)[j]? = (fcel μ k i fl)[j]?
  | [], i, j, _, _ => rfl
  | x :: r, i, 0, h1, h2 => by
    match x with
    | .inl 0 => simp only [fcel, List.getElem?_cons_zero]; rw [show μ'.1 k i = μ.1 k i from by simpa using h1]
    | .inl (n + 1) => simp only [fcel, List.getElem?_cons_zero]; rw [h2 ⟨n, by simp⟩]
    | .inr y => simp only [fcel, List.getElem?_cons_zero]
  | x :: r, i, j + 1, h1, h2 => by
    have ih := fcel_same μ μ' k r (i + 1) j (by rw [show i + 1 + j = i + (j + 1) by omega]; simpa using h1) (by simpa using h2)
    match x with
    | .inl 0 => simpa [fcel] using ih
    | .inl (_ + 1) => simpa [fcel] using ih
    | .inr y => simpa [fcel] using ih
theorem cel_off {μ μ' : Mu} {k' : Nat} (h1 : ∀ j, μ'.1 k' j = μ.1 k' j) (h2 : μ'.2.1 k' = μ.2.1 k') (h3 : μ'.2.2 k' = μ.2.2 k') (x : Sh) : cel μ' k' x = cel μ k' x := by
  match x with
  | .inl (0, n, rs) => simp only [cel, h2]
  | .inl (1, n, rs) => simp only [cel, h2]
  | .inl (t + 2, n, rs) => rfl
  | .inr (ci, fl) =>
    simp only [cel]
    congr 2
    apply List.ext_getElem?
    intro j
    exact fcel_same μ μ' k' fl 0 j (fun _ => h1 _) (fun _ => h3)
theorem lay_setF {μ : Mu} {k j ci : Nat} {fl : List (Nat ⊕ Nat)} {v : Int32} (hs : shapes[k]? = some (.inr (ci, fl))) (hf : fl[j]? = some (.inl 0)) : (lay μ).set k (.inr (ci, (fcel μ k 0 fl).set j (.int v))) = lay (setF μ k j v) := by
  refine lay1_put μ (setF μ k j v) shapes k _ _ hs (fun k' hk x => cel_off (μ := μ) (μ' := (setF μ k j v)) (fun b => ?_) rfl rfl x) ?_
  · exact if_neg fun h => hk h.1
  · show _ = Sum.inr (ci, fcel (setF μ k j v) k 0 fl)
    rw [fcel_set μ (setF μ k j v) k (.int v) fl 0 j ?_ ?_]
    · rw [fcel_getI (setF μ k j v) k fl 0 j hf, Nat.zero_add]
      show some (Value.int (if k = k ∧ j = j then v else μ.1 k j)) = _
      rw [if_pos ⟨rfl, rfl⟩]
    · intro j' hj
      refine fcel_same μ (setF μ k j v) k fl 0 j' (fun _ => ?_) (fun _ => rfl)
      show (if k = k ∧ 0 + j' = j then v else μ.1 k (0 + j')) = _
      rw [if_neg]
      rintro ⟨-, h⟩
      exact hj (by omega)
theorem lay_setJ {μ : Mu} {k j ci : Nat} {fl : List (Nat ⊕ Nat)} {v : Int64} (hs : shapes[k]? = some (.inr (ci, fl))) (hf : fl[j]? = some (.inl 1)) (hu : ∀ j' n, fl[j']? = some (.inl (n + 1)) → j' = j) : (lay μ).set k (.inr (ci, (fcel μ k 0 fl).set j (.long v))) = lay (setJ μ k v) := by
  refine lay1_put μ (setJ μ k v) shapes k _ _ hs (fun k' hk x => cel_off (μ := μ) (μ' := (setJ μ k v)) (fun b => rfl) rfl (if_neg hk) x) ?_
  · show _ = Sum.inr (ci, fcel (setJ μ k v) k 0 fl)
    rw [fcel_set μ (setJ μ k v) k (.long v) fl 0 j ?_ ?_]
    · rw [fcel_getJ (setJ μ k v) k fl 0 j hf]
      show some (Value.long (if k = k then v else μ.2.2 k)) = _
      rw [if_pos rfl]
    · intro j' hj
      exact fcel_same μ (setJ μ k v) k fl 0 j' (fun _ => rfl) (fun ⟨n, hn⟩ => absurd (hu j' n hn) hj)
theorem lay_setA {μ : Mu} {k n i t : Nat} {rs : List (Option Nat)} {v : Int32} (ht : t < 2) (hs : shapes[k]? = some (.inl (t, n, rs))) : (lay μ).set k (.inl (t, n, .inl (upd (μ.2.1 k) i v))) = lay (setA μ k i v) := by
  refine lay1_put μ (setA μ k i v) shapes k _ _ hs (fun k' hk x => cel_off (μ := μ) (μ' := (setA μ k i v)) (fun b => rfl) ?_ rfl x) ?_
  · funext b
    exact if_neg fun h => hk h.1
  · have h1 : (setA μ k i v).2.1 k = upd (μ.2.1 k) i v := by
      funext b
      show (if k = k ∧ b = i then v else μ.2.1 k b) = if b = i then v else μ.2.1 k b
      by_cases hb : b = i
      · rw [if_pos ⟨rfl, hb⟩, if_pos hb]
      · rw [if_neg fun h => hb h.2, if_neg hb]
    match t, ht with
    | 0, _ => simp only [cel, h1]
    | 1, _ => simp only [cel, h1]
theorem lay_setG {μ : Mu} {k n t : Nat} {rs : List (Option Nat)} {f : Nat → Int32} (ht : t < 2) (hs : shapes[k]? = some (.inl (t, n, rs))) : (lay μ).set k (.inl (t, n, .inl f)) = lay (setG μ k f) := by
  refine lay1_put μ (setG μ k f) shapes k _ _ hs (fun k' hk x => cel_off (μ := μ) (μ' := (setG μ k f)) (fun b => rfl) (if_neg hk) rfl x) ?_
  · have h1 : (setG μ k f).2.1 k = f := if_pos rfl
    match t, ht with
    | 0, _ => simp only [cel, h1]
    | 1, _ => simp only [cel, h1]
section GOLAY
variable {E : Lx} {Y : Mt} {al : Bool} {R : Room} {cs ss pc : Nat} {L : List (Option Value)} {st : List Value} {μ : Mu} {Φ : Post}
theorem go_getI {k ci j idx : Nat} {fl : List (Nat ⊕ Nat)} (hs : shapes[k]? = some (.inr (ci, fl))) (hf : fl[j]? = some (.inl 0)) (hF : FL Y.1.cls idx ci j) (d : decode Y.2.1 pc = .ok (.getfield idx, 3)) (kk : Go E Y al R cs ss (pc + 3) L (.int (μ.1 k j) :: st) (lay μ) Φ) : Go E Y al R cs ss pc L (.ref k :: st) (lay μ) Φ :=
  go_get (lay_at hs) hF (by rw [fcel_getI μ k fl 0 j hf, Nat.zero_add]) d kk
theorem go_getJ {k ci j idx : Nat} {fl : List (Nat ⊕ Nat)} (hs : shapes[k]? = some (.inr (ci, fl))) (hf : fl[j]? = some (.inl 1)) (hF : FL Y.1.cls idx ci j) (d : decode Y.2.1 pc = .ok (.getfield idx, 3)) (kk : Go E Y al R cs ss (pc + 3) L (.long (μ.2.2 k) :: st) (lay μ) Φ) : Go E Y al R cs ss pc L (.ref k :: st) (lay μ) Φ :=
  go_get (lay_at hs) hF (fcel_getJ μ k fl 0 j hf) d kk
theorem go_getR {k ci j idx r : Nat} {fl : List (Nat ⊕ Nat)} (hs : shapes[k]? = some (.inr (ci, fl))) (hf : fl[j]? = some (.inr r)) (hF : FL Y.1.cls idx ci j) (d : decode Y.2.1 pc = .ok (.getfield idx, 3)) (kk : Go E Y al R cs ss (pc + 3) L (.ref r :: st) (lay μ) Φ) : Go E Y al R cs ss pc L (.ref k :: st) (lay μ) Φ :=
  go_get (lay_at hs) hF (fcel_getR μ k fl 0 j hf) d kk
theorem go_putI {k ci j idx : Nat} {fl : List (Nat ⊕ Nat)} {v : Int32} (hs : shapes[k]? = some (.inr (ci, fl))) (hf : fl[j]? = some (.inl 0)) (hF : FP Y.1 idx ci j .int) (d : decode Y.2.1 pc = .ok (.putfield idx, 3)) (kk : Go E Y al R cs ss (pc + 3) L st (lay (setF μ k j v)) Φ) : Go E Y al R cs ss pc L (.int v :: .ref k :: st) (lay μ) Φ :=
  go_put (lay_at hs) hF (fun _ => rfl) (fun _ => rfl) (by rw [fcel_len]; exact (List.getElem?_eq_some_iff.mp hf).1) d (by rw [lay_setF hs hf]; exact kk)
theorem go_putZ {k ci j idx : Nat} {fl : List (Nat ⊕ Nat)} {v : Int32} (hv : v = 0 ∨ v = 1) (hs : shapes[k]? = some (.inr (ci, fl))) (hf : fl[j]? = some (.inl 0)) (hF : FP Y.1 idx ci j .boolean) (d : decode Y.2.1 pc = .ok (.putfield idx, 3)) (kk : Go E Y al R cs ss (pc + 3) L st (lay (setF μ k j v)) Φ) : Go E Y al R cs ss pc L (.int v :: .ref k :: st) (lay μ) Φ :=
  go_put (lay_at hs) hF (fun _ => by rcases hv with rfl | rfl <;> rfl) (fun _ => by rcases hv with rfl | rfl <;> rfl) (by rw [fcel_len]; exact (List.getElem?_eq_some_iff.mp hf).1) d (by rw [lay_setF hs hf]; exact kk)
theorem go_putJ {k ci j idx : Nat} {fl : List (Nat ⊕ Nat)} {v : Int64} (hs : shapes[k]? = some (.inr (ci, fl))) (hf : fl[j]? = some (.inl 1)) (hu : ∀ j' n, fl[j']? = some (.inl (n + 1)) → j' = j) (hF : FP Y.1 idx ci j .long) (d : decode Y.2.1 pc = .ok (.putfield idx, 3)) (kk : Go E Y al R cs ss (pc + 3) L st (lay (setJ μ k v)) Φ) : Go E Y al R cs ss pc L (.long v :: .ref k :: st) (lay μ) Φ :=
  go_put (lay_at hs) hF (fun _ => rfl) (fun _ => rfl) (by rw [fcel_len]; exact (List.getElem?_eq_some_iff.mp hf).1) d (by rw [lay_setJ hs hf hu]; exact kk)
theorem go_aldI {k n : Nat} {rs : List (Option Nat)} {i : Int32} (hs : shapes[k]? = some (.inl (0, n, rs))) (hin : vp_in i n) (d : decode Y.2.1 pc = .ok (.iaload, 1)) (kk : Go E Y al R cs ss (pc + 1) L (.int (μ.2.1 k i.toNatClampNeg) :: st) (lay μ) Φ) : Go E Y al R cs ss pc L (.int i :: .ref k :: st) (lay μ) Φ :=
  go_iald (lay_at hs) hin d kk
theorem go_aldZ {k n : Nat} {rs : List (Option Nat)} {i : Int32} (hs : shapes[k]? = some (.inl (1, n, rs))) (hin : vp_in i n) (d : decode Y.2.1 pc = .ok (.baload, 1)) (kk : Go E Y al R cs ss (pc + 1) L (.int (μ.2.1 k i.toNatClampNeg) :: st) (lay μ) Φ) : Go E Y al R cs ss pc L (.int i :: .ref k :: st) (lay μ) Φ :=
  go_zald (lay_at hs) hin d kk
theorem go_astI {k n : Nat} {rs : List (Option Nat)} {i x : Int32} (hs : shapes[k]? = some (.inl (0, n, rs))) (hin : vp_in i n) (d : decode Y.2.1 pc = .ok (.iastore, 1)) (kk : Go E Y al R cs ss (pc + 1) L st (lay (setA μ k i.toNatClampNeg x)) Φ) : Go E Y al R cs ss pc L (.int x :: .int i :: .ref k :: st) (lay μ) Φ :=
  go_iast (lay_at hs) hin d (by rw [lay_setA (by decide) hs]; exact kk)
theorem nar_z {x : Int32} (hx : x = 0 ∨ x = 1) : vp_nar .boolean x = x := by
  rcases hx with rfl | rfl <;> rfl
theorem go_astZ {k n : Nat} {rs : List (Option Nat)} {i x : Int32} (hx : x = 0 ∨ x = 1) (hs : shapes[k]? = some (.inl (1, n, rs))) (hin : vp_in i n) (d : decode Y.2.1 pc = .ok (.bastore, 1)) (kk : Go E Y al R cs ss (pc + 1) L st (lay (setA μ k i.toNatClampNeg x)) Φ) : Go E Y al R cs ss pc L (.int x :: .int i :: .ref k :: st) (lay μ) Φ :=
  go_zast (lay_at hs) hin d (by rw [nar_z hx, lay_setA (by decide) hs]; exact kk)
theorem go_aldR {k n t r : Nat} {C : String} {rs : List (Option Nat)} {i : Int32} (hs : shapes[k]? = some (.inl (t + 2, n, rs))) (ht : tyk (t + 2) = .object C) (hin : vp_in i n) (hr : rs.getD i.toNatClampNeg none = some r) (d : decode Y.2.1 pc = .ok (.aaload, 1)) (kk : Go E Y al R cs ss (pc + 1) L (.ref r :: st) (lay μ) Φ) : Go E Y al R cs ss pc L (.int i :: .ref k :: st) (lay μ) Φ :=
  go_aald (lay_at hs) ht hin hr d kk
theorem go_lenA {k n t : Nat} {rs : List (Option Nat)} {v : Int32} (hs : shapes[k]? = some (.inl (t, n, rs))) (hv : Int32.ofNat n = v) (d : decode Y.2.1 pc = .ok (.arraylength, 1)) (kk : Go E Y al R cs ss (pc + 1) L (.int v :: st) (lay μ) Φ) : Go E Y al R cs ss pc L (.ref k :: st) (lay μ) Φ := by
  have h := lay_at (μ := μ) hs
  match t, h with
  | 0, h => exact go_alen h hv d kk
  | 1, h => exact go_alen h hv d kk
  | t + 2, h => exact go_alen h hv d kk
end GOLAY
