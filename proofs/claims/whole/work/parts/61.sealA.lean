/-! Sealing, in the abstract: shapes that flow. -/
/-- a shape's number as types, the top first -/
def decL : Nat → Nat → List Bool
  | 0, _ => []
  | f + 1, s => if s ≤ 1 then [] else decide (s % 2 = 1) :: decL f (s / 2)
theorem decL_dec : ∀ s, s < 128 → s ≠ 0 → codeL (decL 7 s) = s ∧ (decL 7 s).length ≤ 6 := by decide +kernel
/-- the shape that an instruction leaves, 0 if it may not stand there -/
def af (op arg s : Nat) : Nat := match ty op arg (decL 7 s) with
  | some l => if l.length ≤ 6 then codeL l else 0
  | none => 0
theorem af_ty {op arg s : Nat} (h : af op arg s ≠ 0) : ∃ l, ty op arg (decL 7 s) = some l ∧ l.length ≤ 6 ∧ af op arg s = codeL l := by
  unfold af at h ⊢
  cases e : ty op arg (decL 7 s) with
  | none => rw [e] at h; exact absurd rfl h
  | some l =>
    rw [e] at h
    by_cases hl : l.length ≤ 6
    · exact ⟨l, rfl, hl, if_pos hl⟩
    · exact absurd (if_neg hl) h
theorem af_lt {op arg s : Nat} : af op arg s < 128 := by
  by_cases h : af op arg s = 0
  · omega
  · obtain ⟨l, -, h2, h3⟩ := af_ty h
    have := codeL_6 h2
    omega
/-- what the place i leaves -/
def nx (o g : Nat → Nat) (i s : Nat) : Nat := af (o i) (g i) s
/-- the place i flows -/
def Cl (n : Nat) (o g T : Nat → Nat) (i : Nat) : Prop := nx o g i (T i) ≠ 0 ∧ (o i = 17 ∨ o i = 18 → g i < n ∧ T (g i) = nx o g i (T i)) ∧ (o i = 0 ∨ o i = 17 ∨ (i + 1 < n ∧ T (i + 1) = nx o g i (T i)))
def Sol (n : Nat) (o g T : Nat → Nat) : Prop := 0 < n ∧ T 0 = 1 ∧ ∀ i, i < n → T i ≠ 0 → Cl n o g T i
def Le (n : Nat) (S T : Nat → Nat) : Prop := ∀ i, i < n → S i ≠ 0 → T i = S i
/-- how many places have a shape -/
def cnS : Nat → (Nat → Nat) → Nat
  | 0, _ => 0
  | n + 1, S => cnS n S + (if S n = 0 then 0 else 1)
theorem cn_le (S : Nat → Nat) : ∀ n, cnS n S ≤ n
  | 0 => Nat.le_refl 0
  | n + 1 => by
    have := cn_le S n
    unfold cnS
    split <;> omega
def upS (S : Nat → Nat) (s v : Nat) : Nat → Nat := fun j => if j = s then v else S j
theorem cn_up {S : Nat → Nat} {s v : Nat} (h0 : S s = 0) (hv : v ≠ 0) : ∀ n, cnS n (upS S s v) = cnS n S + (if s < n then 1 else 0)
  | 0 => rfl
  | n + 1 => by
    have ih := cn_up h0 hv n
    unfold cnS
    rw [ih]
    by_cases hn : n = s
    · subst hn
      rw [if_neg (Nat.lt_irrefl n), if_pos (Nat.lt_succ_self n), show upS S n v n = v from if_pos rfl, if_neg hv, h0]
      rfl
    · rw [show upS S s v n = S n from if_neg hn]
      by_cases hs : s < n
      · rw [if_pos hs, if_pos (show s < n + 1 by omega)]; omega
      · rw [if_neg hs, if_neg (show ¬ s < n + 1 by omega)]; omega
theorem cn_lt {S : Nat → Nat} {s : Nat} (h0 : S s = 0) {n : Nat} (hs : s < n) : cnS n S < n := by
  have h1 := cn_up h0 (v := 1) (by omega) n
  have h2 := cn_le (upS S s 1) n
  rw [if_pos hs] at h1
  omega
/-- a shape is brought to a place -/
def rchS (n : Nat) (S : Nat → Nat) (s v : Nat) : Option (Nat → Nat) := if s < n then (if S s = 0 then some (upS S s v) else if S s = v then some S else none) else none
theorem rch_some {n s v : Nat} {S S' : Nat → Nat} (h : rchS n S s v = some S') (hv : v ≠ 0) : s < n ∧ S' s = v ∧ (∀ j, S j ≠ 0 → S' j = S j) ∧ (S' = S ∨ cnS n S < cnS n S') ∧ (∀ T, Le n S T → T s = v → Le n S' T) ∧ (v < 128 → (∀ j, S j < 128) → ∀ j, S' j < 128) := by
  unfold rchS at h
  by_cases hs : s < n
  · rw [if_pos hs] at h
    by_cases h0 : S s = 0
    · rw [if_pos h0] at h
      have e : S' = upS S s v := (Option.some.inj h).symm
      subst e
      refine ⟨hs, if_pos rfl, fun j hj => if_neg (fun e => hj (by rw [e]; exact h0)), Or.inr ?_, fun T hT hTs j hj hjn => ?_, fun hv2 hb j => ?_⟩
      · rw [cn_up h0 hv, if_pos hs]; omega
      · by_cases e : j = s
        · subst e; rw [hTs]; exact (if_pos rfl).symm
        · have e2 : upS S s v j = S j := if_neg e
          rw [e2] at hjn ⊢
          exact hT j hj hjn
      · show (if j = s then v else S j) < 128
        split
        · exact hv2
        · exact hb j
    · rw [if_neg h0] at h
      by_cases h1 : S s = v
      · rw [if_pos h1] at h
        have e : S' = S := (Option.some.inj h).symm
        subst e
        exact ⟨hs, h1, fun j _ => rfl, Or.inl rfl, fun T hT _ => hT, fun _ hb => hb⟩
      · rw [if_neg h1] at h; exact absurd h (by simp)
  · rw [if_neg hs] at h; exact absurd h (by simp)
theorem rch_none {n s v : Nat} {S : Nat → Nat} (h : rchS n S s v = none) {T : Nat → Nat} (hT : Le n S T) (hs : s < n) (hTs : T s = v) : False := by
  unfold rchS at h
  rw [if_pos hs] at h
  by_cases h0 : S s = 0
  · rw [if_pos h0] at h; exact absurd h (by simp)
  · rw [if_neg h0, if_pos ((hT s hs h0).symm.trans hTs)] at h; exact absurd h (by simp)
/-- the place i is gone on from -/
def floS (n : Nat) (o g S : Nat → Nat) (i : Nat) : Option (Nat → Nat) :=
  if nx o g i (S i) = 0 then none else
  match (if o i = 17 ∨ o i = 18 then rchS n S (g i) (nx o g i (S i)) else some S) with
  | none => none
  | some S1 => if o i = 0 ∨ o i = 17 then some S1 else rchS n S1 (i + 1) (nx o g i (S i))
/-- the three ways of going on from the place i -/
theorem flo_cases {n : Nat} {o g S : Nat → Nat} {i : Nat} (h : nx o g i (S i) ≠ 0) : floS n o g S i = match (if o i = 17 ∨ o i = 18 then rchS n S (g i) (nx o g i (S i)) else some S) with
  | none => none
  | some S1 => if o i = 0 ∨ o i = 17 then some S1 else rchS n S1 (i + 1) (nx o g i (S i)) := if_neg h
theorem flo_some {n : Nat} {o g S S' : Nat → Nat} {i : Nat} (h : floS n o g S i = some S') (hi : i < n) (h0 : S i ≠ 0) : Cl n o g S' i ∧ (∀ j, S j ≠ 0 → S' j = S j) ∧ (S' = S ∨ cnS n S < cnS n S') ∧ (∀ T, Sol n o g T → Le n S T → Le n S' T) ∧ ((∀ j, S j < 128) → ∀ j, S' j < 128) := by
  have hx : nx o g i (S i) ≠ 0 := fun e => by
    unfold floS at h
    rw [if_pos e] at h
    exact absurd h (by simp)
  rw [flo_cases hx] at h
  have hl : nx o g i (S i) < 128 := af_lt
  have hT2 : ∀ T, Sol n o g T → Le n S T → T i = S i ∧ Cl n o g T i := fun T hT hL => by
    have e := hL i hi h0
    exact ⟨e, hT.2.2 i hi (by rw [e]; exact h0)⟩
  have hA : ∃ S1, (o i = 17 ∨ o i = 18 → g i < n ∧ S1 (g i) = nx o g i (S i)) ∧ (∀ j, S j ≠ 0 → S1 j = S j) ∧ (S1 = S ∨ cnS n S < cnS n S1) ∧ (∀ T, Sol n o g T → Le n S T → Le n S1 T) ∧ ((∀ j, S j < 128) → ∀ j, S1 j < 128) ∧ (if o i = 0 ∨ o i = 17 then some S1 else rchS n S1 (i + 1) (nx o g i (S i))) = some S' := by
    by_cases hj : o i = 17 ∨ o i = 18
    · rw [if_pos hj] at h
      cases e : rchS n S (g i) (nx o g i (S i)) with
      | none => rw [e] at h; exact absurd h (by simp)
      | some S1 =>
        rw [e] at h
        obtain ⟨a1, a2, a3, a4, a5, a6⟩ := rch_some e hx
        refine ⟨S1, fun _ => ⟨a1, a2⟩, a3, a4, fun T hT hL => a5 T hL ?_, a6 hl, h⟩
        obtain ⟨e1, e2⟩ := hT2 T hT hL
        rw [← e1]
        exact (e2.2.1 hj).2
    · rw [if_neg hj] at h
      exact ⟨S, fun h => absurd h hj, fun _ _ => rfl, Or.inl rfl, fun _ _ h => h, fun h => h, h⟩
  obtain ⟨S1, b1, b2, b3, b4, b5, b6⟩ := hA
  by_cases hs : o i = 0 ∨ o i = 17
  · rw [if_pos hs] at b6
    have e : S' = S1 := (Option.some.inj b6).symm
    subst e
    have e1 := b2 i h0
    exact ⟨⟨by rw [e1]; exact hx, by rw [e1]; exact b1, by rcases hs with h | h; exact Or.inl h; exact Or.inr (Or.inl h)⟩, b2, b3, b4, b5⟩
  · rw [if_neg hs] at b6
    obtain ⟨a1, a2, a3, a4, a5, a6⟩ := rch_some b6 hx
    have hee : ∀ j, S j ≠ 0 → S' j = S j := fun j hj => (a3 j (by rw [b2 j hj]; exact hj)).trans (b2 j hj)
    have e1 := hee i h0
    refine ⟨⟨by rw [e1]; exact hx, ?_, Or.inr (Or.inr ⟨a1, by rw [e1]; exact a2⟩)⟩, hee, ?_, fun T hT hL => a5 T (b4 T hT hL) ?_, fun hb => a6 hl (b5 hb)⟩
    · intro hj
      rw [e1]
      obtain ⟨c1, c2⟩ := b1 hj
      exact ⟨c1, (a3 (g i) (by rw [c2]; exact hx)).trans c2⟩
    · rcases b3 with h | h
      · rcases a4 with h' | h'
        · exact Or.inl (h'.trans h)
        · rw [h] at h'; exact Or.inr h'
      · rcases a4 with h' | h'
        · rw [h']; exact Or.inr h
        · exact Or.inr (Nat.lt_trans h h')
    · obtain ⟨e3, e2⟩ := hT2 T hT hL
      rw [← e3]
      rcases e2.2.2 with h | h | h
      · exact absurd (Or.inl h) hs
      · exact absurd (Or.inr h) hs
      · exact h.2
theorem flo_none {n : Nat} {o g S : Nat → Nat} {i : Nat} (h : floS n o g S i = none) (hi : i < n) (h0 : S i ≠ 0) {T : Nat → Nat} (hT : Sol n o g T) (hL : Le n S T) : False := by
  have e := hL i hi h0
  have hC := hT.2.2 i hi (by rw [e]; exact h0)
  have hx : nx o g i (S i) ≠ 0 := by rw [← e]; exact hC.1
  rw [flo_cases hx] at h
  by_cases hj : o i = 17 ∨ o i = 18
  · rw [if_pos hj] at h
    have hg := hC.2.1 hj
    rw [e] at hg
    cases e1 : rchS n S (g i) (nx o g i (S i)) with
    | none => exact rch_none e1 hL hg.1 hg.2
    | some S1 =>
      rw [e1] at h
      have hL1 := (rch_some e1 hx).2.2.2.2.1 T hL hg.2
      by_cases hs : o i = 0 ∨ o i = 17
      · have h : (if o i = 0 ∨ o i = 17 then some S1 else rchS n S1 (i + 1) (nx o g i (S i))) = none := h
        rw [if_pos hs] at h; exact absurd h (by simp)
      · have h : (if o i = 0 ∨ o i = 17 then some S1 else rchS n S1 (i + 1) (nx o g i (S i))) = none := h
        rw [if_neg hs] at h
        rcases hC.2.2 with h' | h' | h'
        · exact hs (Or.inl h')
        · exact hs (Or.inr h')
        · rw [e] at h'; exact rch_none h hL1 h'.1 h'.2
  · rw [if_neg hj] at h
    have h : (if o i = 0 ∨ o i = 17 then some S else rchS n S (i + 1) (nx o g i (S i))) = none := h
    by_cases hs : o i = 0 ∨ o i = 17
    · rw [if_pos hs] at h; exact absurd h (by simp)
    · rw [if_neg hs] at h
      rcases hC.2.2 with h' | h' | h'
      · exact hs (Or.inl h')
      · exact hs (Or.inr h')
      · rw [e] at h'; exact rch_none h hL h'.1 h'.2
/-- what an answer of the sealing must be -/
def Ans (n : Nat) (o g : Nat → Nat) (x : Nat) (S : Nat → Nat) : Prop := (x = 1 ∧ Sol n o g S ∧ (∀ T, Sol n o g T → Le n S T) ∧ ∀ j, S j < 128) ∨ (x = 0 ∧ ∀ T, ¬ Sol n o g T)
theorem Ans.eq {n : Nat} {o g : Nat → Nat} {x y : Nat} {S S' : Nat → Nat} (h : Ans n o g x S) (h' : Ans n o g y S') : x = y ∧ (x = 1 → ∀ i, i < n → S i = S' i) := by
  rcases h with ⟨rfl, h1, h2, -⟩ | ⟨rfl, h1⟩
  · rcases h' with ⟨rfl, g1, g2, -⟩ | ⟨rfl, g1⟩
    · refine ⟨rfl, fun _ i hi => ?_⟩
      by_cases hz : S i = 0
      · by_cases hz' : S' i = 0
        · rw [hz, hz']
        · exact g2 S h1 i hi hz'
      · exact (h2 S' g1 i hi hz).symm
    · exact absurd h1 (g1 S)
  · rcases h' with ⟨rfl, g1, g2, -⟩ | ⟨rfl, g1⟩
    · exact absurd g1 (h1 S')
    · exact ⟨rfl, fun h => absurd h (by decide)⟩
