/-! The relation between the class's cells and the reference's. -/
/-- bit r of a set of cells -/
def tb (m : Int64) (r : Nat) : Bool := m.toBitVec.getLsbD r
/-- a reference of the class's, as the reference writes it for tenant t -/
def enc (t r : Nat) : Int32 := if r = 0 then -1 else if r < 9 then nI (95 + r) else nI (24 * t + (r - 9))
/-- v is a number from 0 to n -/
def isN (v : Int32) (n : Nat) : Prop := ∃ k, k ≤ n ∧ v = nI k
/-- a good reference: none, a shared cell that is there, an own cell that is there -/
def okR (sc : Nat) (m : Int64) (r : Nat) : Prop := r = 0 ∨ (1 ≤ r ∧ r ≤ sc) ∨ (9 ≤ r ∧ r < 33 ∧ tb m r = true)
def isR (sc : Nat) (m : Int64) (v : Int32) : Prop := ∃ r, okR sc m r ∧ v = nI r
/-- types of a stack, the top first, as a shape's number -/
def codeL : List Bool → Nat
  | [] => 1
  | b :: l => 2 * codeL l + (if b then 1 else 0)
/-- the types of the d lowest values, the top first -/
def tys (ar : Nat → Int32) : Nat → List Bool
  | 0 => []
  | d + 1 => (ar d != 0) :: tys ar d
/-- what an instruction makes of the types -/
def ty (op arg : Nat) (l : List Bool) : Option (List Bool) :=
  if op = 0 ∨ op = 17 then some l
  else if op = 1 ∨ op = 20 ∨ op = 24 then some (false :: l)
  else if 2 ≤ op ∧ op ≤ 6 then (match l with | false :: false :: r => some (false :: r) | _ => none)
  else if op = 7 then some ((2 ≤ arg) :: l)
  else if op = 8 then (match l with | b :: r => if b = decide (2 ≤ arg) then some r else none | _ => none)
  else if op = 9 then (match l with | b :: r => some (b :: b :: r) | _ => none)
  else if op = 10 then (match l with | _ :: r => some r | _ => none)
  else if op = 11 then (match l with | false :: r => some (true :: r) | _ => none)
  else if op = 12 then (match l with | true :: r => some (decide (arg ≠ 0) :: r) | _ => none)
  else if op = 13 then (match l with | b :: true :: r => if b = decide (arg ≠ 0) then some r else none | _ => none)
  else if op = 14 then (match l with | true :: true :: r => some (false :: r) | _ => none)
  else if op = 15 ∨ op = 16 ∨ op = 22 then some (true :: l)
  else if op = 18 ∨ op = 19 then (match l with | false :: r => some r | _ => none)
  else if op = 21 then (match l with | true :: r => some (false :: r) | _ => none)
  else if op = 23 then (match l with | false :: r => some (false :: r) | _ => none)
  else none
/-- the greatest arg of an op, but for PUSH -/
def hiA (op : Nat) : Nat := (sta_v 2 op).toNatClampNeg
/-- a program of the class's: n instructions; if it is sealed, its shapes flow -/
def IP (P : PB) : Prop := ∃ n, n ≤ 24 ∧ P.1 5 = nI n ∧ (P.1 6 = 0 ∨ P.1 6 = 1) ∧
  (∀ i, i < n → ∃ op, op ≤ 24 ∧ P.2 0 i = nI op ∧ (op = 1 ∨ ∃ a, a ≤ hiA op ∧ P.2 1 i = nI a)) ∧
  (P.1 6 = 1 → 0 < n ∧ P.2 2 0 = 1 ∧ ∀ i, i < n → P.2 2 i ≠ 0 → ∃ l l' op, l.length ≤ 6 ∧ l'.length ≤ 6 ∧ P.2 2 i = nI (codeL l) ∧ P.2 0 i = nI op ∧ ty op (P.2 1 i).toNatClampNeg l = some l' ∧
    (op = 17 ∨ op = 18 → (P.2 1 i).toNatClampNeg < n ∧ P.2 2 (P.2 1 i).toNatClampNeg = nI (codeL l')) ∧ (op = 0 ∨ op = 17 ∨ (i + 1 < n ∧ P.2 2 (i + 1) = nI (codeL l'))))
/-- a tenant of the class's -/
def IT (sc : Nat) (B : TB) : Prop :=
  (isN (B.1 6 2) 6 ∧ isN (B.1 10 1) 4 ∧ isN (B.1 12 1) 8 ∧ isN (B.1 14 1) 16) ∧
  (∃ r s c, r ≤ 3000 ∧ s ≤ r ∧ c ≤ 24 ∧ (c = 0 ↔ r = 0) ∧ B.1 0 10 = nI r ∧ B.1 0 11 = nI s ∧ B.1 1 5 = nI c) ∧
  isN (B.1 0 8) 3 ∧ (B.1 0 7 = 0 → B.1 0 9 = 0) ∧
  (∀ i, i < (B.1 6 2).toNatClampNeg → B.2.1 8 i = 0 ∨ (B.2.1 8 i = 1 ∧ isR sc B.2.2 (B.2.1 7 i))) ∧
  (isR sc B.2.2 (B.2.1 9 2) ∧ isR sc B.2.2 (B.2.1 9 3)) ∧
  (∀ i, i < (B.1 10 1).toNatClampNeg → isR sc B.2.2 (B.2.1 11 i)) ∧
  (∀ r, tb B.2.2 r = true → 9 ≤ r ∧ r < 33 ∧ isR sc B.2.2 (B.2.1 3 r) ∧ isR sc B.2.2 (B.2.1 4 r)) ∧
  ((∀ r, r < 9 → B.2.1 5 r = nI r) ∧ ∀ k, k < sc → (∃ a, a ≤ k ∧ B.2.1 3 (1 + k) = nI a) ∧ ∃ a, a ≤ k ∧ B.2.1 4 (1 + k) = nI a) ∧ (∀ u, u < 4 → isN (B.2.1 16 u) 7)
/-- who runs, runs a sealed program, at a place that is reached, with a stack of that shape; who doesn't, has none -/
def IY (B : TB) (P : Nat → PB) : Prop :=
  ((B.1 0 7 = 1 ∨ B.1 0 7 = 2) → ∃ p pos n, p < 4 ∧ B.1 0 8 = nI p ∧ (P p).1 6 = 1 ∧ (P p).1 5 = nI n ∧ (pos < n ∧ n ≤ 24) ∧ B.1 0 9 = nI pos ∧ (P p).2 2 pos = nI (codeL (tys (B.2.1 8) (B.1 6 2).toNatClampNeg))) ∧
  (¬ (B.1 0 7 = 1 ∨ B.1 0 7 = 2) → B.1 6 2 = 0 ∧ B.1 10 1 = 0 ∧ B.2.2 = 0)
/-- a tenant of both -/
def RT (t : Nat) (B : TB) (S : PB) : Prop :=
  (B.1 0 7 = S.1 106 ∧ B.1 0 8 = S.1 107 ∧ B.1 0 9 = S.1 108 ∧ B.1 0 10 = S.1 105 ∧ B.1 0 11 = S.1 109 ∧ B.1 0 12 = S.1 111) ∧
  (B.1 1 5 = S.1 104 ∧ B.1 1 6 = S.1 110 ∧ B.1 6 2 = S.1 112 ∧ B.1 10 1 = S.1 116 ∧ B.1 12 1 = S.1 118 ∧ B.1 14 1 = S.1 120) ∧
  (∀ u, u < 4 → B.2.1 16 u = S.2 121 u) ∧
  (B.2.1 9 0 = S.2 114 0 ∧ B.2.1 9 1 = S.2 114 1 ∧ S.2 114 2 = enc t (B.2.1 9 2).toNatClampNeg ∧ S.2 114 3 = enc t (B.2.1 9 3).toNatClampNeg) ∧
  (∀ i, i < (B.1 6 2).toNatClampNeg → S.2 113 i = if B.2.1 8 i = 0 then B.2.1 7 i else enc t (B.2.1 7 i).toNatClampNeg) ∧
  (∀ i, i < (B.1 10 1).toNatClampNeg → S.2 115 i = enc t (B.2.1 11 i).toNatClampNeg) ∧
  (∀ i, i < (B.1 12 1).toNatClampNeg → S.2 117 i = B.2.1 13 i) ∧ (∀ i, i < (B.1 14 1).toNatClampNeg → S.2 119 i = B.2.1 15 i) ∧
  (∀ c, c < 24 → S.2 97 c = (if tb B.2.2 (9 + c) = true then 1 else 0)) ∧
  (∀ c, c < 24 → tb B.2.2 (9 + c) = true → S.2 98 c = B.2.1 2 (9 + c) ∧ S.2 99 c = enc t (B.2.1 3 (9 + c)).toNatClampNeg ∧ S.2 100 c = enc t (B.2.1 4 (9 + c)).toNatClampNeg)
/-- a program of both -/
def RP (P S : PB) : Prop := P.1 5 = S.1 95 ∧ P.1 6 = S.1 96 ∧ (∀ i, i < (P.1 5).toNatClampNeg → P.2 0 i = S.2 92 i ∧ P.2 1 i = S.2 93 i) ∧ (P.1 6 = 1 → ∀ i, i < (P.1 5).toNatClampNeg → P.2 2 i = S.2 94 i)
/-- the shared cells, in a tenant's rows -/
def RSh (sc : Nat) (B : TB) (S : Nat → Nat → Int32) : Prop := ∀ k, k < sc → B.2.1 2 (1 + k) = S 98 k ∧ (∃ a, a ≤ k ∧ B.2.1 3 (1 + k) = nI a ∧ S 99 k = enc 0 a) ∧ (∃ a, a ≤ k ∧ B.2.1 4 (1 + k) = nI a ∧ S 100 k = enc 0 a)
/-- the class's cells, c slices at most having been run -/
def Inv (c : Nat) (μ : Mu) : Prop := ∃ len sc s, (1 ≤ len ∧ len ≤ 8 ∧ cG μ 0 = nI len) ∧ (sc ≤ 8 ∧ cG μ 3 = nI sc) ∧ (s ≤ c ∧ cG μ 4 = nI s) ∧
  (∀ t, t < 4 → IT sc (cT μ t) ∧ IY (cT μ t) (cP μ)) ∧ (∀ p, p < 4 → IP (cP μ p)) ∧
  (∃ c0 c1 c2 c3, (cT μ 0).1 1 5 = nI c0 ∧ (cT μ 1).1 1 5 = nI c1 ∧ (cT μ 2).1 1 5 = nI c2 ∧ (cT μ 3).1 1 5 = nI c3 ∧ c0 + c1 + c2 + c3 ≤ 48)
def R2 (μ μr : Mu) : Prop := (cG μ 0 = rG μr 0 ∧ cG μ 3 = rG μr 10 ∧ cG μ 4 = rG μr 32) ∧ (∀ t, t < 4 → RT t (cT μ t) (rV μr t) ∧ RSh (cG μ 3).toNatClampNeg (cT μ t) (rS μr)) ∧ (∀ p, p < 4 → RP (cP μ p) (rV μr p))
theorem R2.ref {μ μr μr' : Mu} (h : R2 μ μr) (he : refEq μr μr') : R2 μ μr' := by
  obtain ⟨h1, h2, h3⟩ := h
  have hs : rS μr' 98 = rS μr 98 ∧ rS μr' 99 = rS μr 99 ∧ rS μr' 100 = rS μr 100 := ⟨he.Sh (by omega), he.Sh (by omega), he.Sh (by omega)⟩
  refine ⟨by rw [he.Gl]; exact h1, fun t ht => ⟨by rw [he.V]; exact (h2 t ht).1, fun k hk => ?_⟩, fun p hp => by rw [he.V]; exact h3 p hp⟩
  have := (h2 t ht).2 k hk
  rw [hs.1, hs.2.1, hs.2.2]
  exact this
theorem R2.cls {μ μ' μr : Mu} (h : R2 μ μr) (he : clsEq μ μ') : R2 μ' μr := by
  obtain ⟨h1, h2, h3⟩ := h
  refine ⟨by rw [he.Gl]; exact h1, fun t ht => ?_, fun p hp => by rw [he.P hp]; exact h3 p hp⟩
  rw [he.T ht, he.Gl]
  exact h2 t ht
theorem Inv.cls {c : Nat} {μ μ' : Mu} (h : Inv c μ) (he : clsEq μ μ') : Inv c μ' := by
  obtain ⟨len, sc, s, h1, h2, h3, h4, h5, h6⟩ := h
  refine ⟨len, sc, s, by rw [he.Gl]; exact h1, by rw [he.Gl]; exact h2, by rw [he.Gl]; exact h3, fun t ht => ?_, fun p hp => by rw [he.P hp]; exact h5 p hp, ?_⟩
  · rw [he.T ht]
    refine ⟨(h4 t ht).1, ?_, (h4 t ht).2.2⟩
    intro ha
    obtain ⟨p, pos, n, hp, h⟩ := (h4 t ht).2.1 ha
    refine ⟨p, pos, n, hp, ?_⟩
    rw [he.P hp]
    exact h
  · rw [he.T (by omega : (0 : Nat) < 4), he.T (by omega : (1 : Nat) < 4), he.T (by omega : (2 : Nat) < 4), he.T (by omega : (3 : Nat) < 4)]
    exact h6
theorem Inv.mono {c c' : Nat} {μ : Mu} (h : Inv c μ) (hc : c ≤ c') : Inv c' μ := by
  obtain ⟨len, sc, s, h1, h2, h3, h4⟩ := h
  exact ⟨len, sc, s, h1, h2, ⟨Nat.le_trans h3.1 hc, h3.2⟩, h4⟩
/-- one memory that holds both -/
def Rel (c : Nat) (μ : Mu) : Prop := Inv c μ ∧ R2 μ μ
/-- a call of the class, and the same call of the reference, in one memory -/
theorem both {wc wr : Mu → (Int32 → Mu → Prop) → Prop} {c c' : Nat} {μ : Mu} {Q : Int32 → Int32 → Mu → Prop} (h : Rel c μ)
    (hs : ∃ x μ1, (∀ Q, Q x μ1 → wc μ Q) ∧ refEq μ μ1 ∧ Inv c' μ1 ∧ ∀ μr, R2 μ μr → ∃ μ2, (∀ Q, Q x μ2 → wr μr Q) ∧ clsEq μr μ2 ∧ R2 μ1 μ2)
    (hq : ∀ x μ2, Rel c' μ2 → Q x x μ2) : wc μ (fun x μ1 => wr μ1 (fun y μ2 => Q x y μ2)) := by
  obtain ⟨x, μ1, h1, h2, h3, h4⟩ := hs
  obtain ⟨μ2, g1, g2, g3⟩ := h4 μ1 (h.2.ref h2)
  exact h1 _ (g1 _ (hq x μ2 ⟨h3.cls g2, g3.cls g2⟩))
