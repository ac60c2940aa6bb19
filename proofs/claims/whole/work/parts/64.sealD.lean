/-! Sealing in the class. -/
def cM (μ : Mu) (p : Nat) (S : Nat → Nat) (r : Nat → Int32) (m : Nat) : Mu :=
  (fun k j => if k = 3 + 5 * p ∧ j = 4 then nI m else μ.1 k j, fun k i => if k = 6 + 5 * p ∧ i < 24 then nI (S i) else if k = 7 + 5 * p then r i else μ.2.1 k i, μ.2.2)
theorem cM_5 {μ : Mu} {p m : Nat} {S : Nat → Nat} {r : Nat → Int32} : (cM μ p S r m).1 (3 + 5 * p) 5 = μ.1 (3 + 5 * p) 5 := if_neg (fun h => absurd h.2 (by decide))
theorem cM_4 {μ : Mu} {p m : Nat} {S : Nat → Nat} {r : Nat → Int32} : (cM μ p S r m).1 (3 + 5 * p) 4 = nI m := if_pos ⟨rfl, rfl⟩
theorem cM_S {μ : Mu} {p m i : Nat} {S : Nat → Nat} {r : Nat → Int32} (h : i < 24) : (cM μ p S r m).2.1 (6 + 5 * p) i = nI (S i) := if_pos ⟨rfl, h⟩
theorem cM_r {μ : Mu} {p m i : Nat} {S : Nat → Nat} {r : Nat → Int32} : (cM μ p S r m).2.1 (7 + 5 * p) i = r i := (if_neg (fun h => by omega)).trans (if_pos rfl)
theorem cM_o {μ : Mu} {p m k i : Nat} {S : Nat → Nat} {r : Nat → Int32} (h : k ≠ 6 + 5 * p) (h2 : k ≠ 7 + 5 * p) : (cM μ p S r m).2.1 k i = μ.2.1 k i := (if_neg (fun e => h e.1)).trans (if_neg h2)
theorem cM_setS {μ : Mu} {p m s v : Nat} {S : Nat → Nat} {r : Nat → Int32} (h : s < 24) : setA (cM μ p S r m) (6 + 5 * p) s (nI v) = cM μ p (upS S s v) r m := by
  unfold cM setA upS
  refine Prod.ext rfl (Prod.ext (funext fun a => funext fun b => ?_) rfl)
  show (if a = 6 + 5 * p ∧ b = s then nI v else if a = 6 + 5 * p ∧ b < 24 then nI (S b) else if a = 7 + 5 * p then r b else μ.2.1 a b) = if a = 6 + 5 * p ∧ b < 24 then nI (if b = s then v else S b) else if a = 7 + 5 * p then r b else μ.2.1 a b
  by_cases ha : a = 6 + 5 * p
  · by_cases hb : b = s
    · rw [if_pos ⟨ha, hb⟩, if_pos ⟨ha, by omega⟩, if_pos hb]
    · rw [if_neg (fun e => hb e.2), if_neg hb]
  · rw [if_neg (fun e => ha e.1), if_neg (show ¬ (a = 6 + 5 * p ∧ b < 24) from fun e => ha e.1), if_neg (show ¬ (a = 6 + 5 * p ∧ b < 24) from fun e => ha e.1)]
theorem cM_setR {μ : Mu} {p m k : Nat} {x : Int32} {S : Nat → Nat} {r : Nat → Int32} : setA (cM μ p S r m) (7 + 5 * p) k x = cM μ p S (upd r k x) m := by
  unfold cM setA upd
  refine Prod.ext rfl (Prod.ext (funext fun a => funext fun b => ?_) rfl)
  show (if a = 7 + 5 * p ∧ b = k then x else if a = 6 + 5 * p ∧ b < 24 then nI (S b) else if a = 7 + 5 * p then r b else μ.2.1 a b) = if a = 6 + 5 * p ∧ b < 24 then nI (S b) else if a = 7 + 5 * p then (if b = k then x else r b) else μ.2.1 a b
  by_cases ha : a = 7 + 5 * p
  · rw [if_neg (show ¬ (a = 6 + 5 * p ∧ b < 24) by omega), if_neg (show ¬ (a = 6 + 5 * p ∧ b < 24) by omega), if_pos ha, if_pos ha]
    by_cases hb : b = k
    · rw [if_pos ⟨ha, hb⟩, if_pos hb]
    · rw [if_neg (fun e => hb e.2), if_neg hb]
  · rw [if_neg (fun e => ha e.1), if_neg ha, if_neg ha]
theorem cM_setm {μ : Mu} {p m m' : Nat} {S : Nat → Nat} {r : Nat → Int32} : setF (cM μ p S r m) (3 + 5 * p) 4 (nI m') = cM μ p S r m' := by
  unfold cM setF
  refine Prod.ext (funext fun a => funext fun b => ?_) rfl
  show (if a = 3 + 5 * p ∧ b = 4 then nI m' else if a = 3 + 5 * p ∧ b = 4 then nI m else μ.1 a b) = if a = 3 + 5 * p ∧ b = 4 then nI m' else μ.1 a b
  by_cases ha : a = 3 + 5 * p ∧ b = 4
  · rw [if_pos ha, if_pos ha]
  · rw [if_neg ha, if_neg ha, if_neg ha]
/-- the list of what is reached -/
def LO (n : Nat) (S : Nat → Nat) (r : Nat → Int32) (m : Nat) : Prop := m = cnS n S ∧ (∀ k, k < m → ∃ q, r k = nI q ∧ q < n ∧ S q ≠ 0) ∧ (∀ j, j < n → S j ≠ 0 → ∃ k, k < m ∧ r k = nI j)
theorem hs_y {μ : Mu} {p n s : Nat} {Q : Int32 → Mu → Prop} (h5 : μ.1 (3 + 5 * p) 5 = nI n) (hn : n ≤ 24) (hs : s < n) (hq : Q 1 μ) : wp_Prog_has p (nI s) μ Q :=
  ⟨fun h => absurd h (nI_pos (by omega)), fun _ => ⟨fun h => by rw [h5] at h; exact absurd h (nI_ge hs (by omega)), fun _ => hq⟩⟩
theorem hs_n {μ : Mu} {p n s : Nat} {Q : Int32 → Mu → Prop} (h5 : μ.1 (3 + 5 * p) 5 = nI n) (hn : n ≤ 24) (hs : n ≤ s) (hs2 : s < 2 ^ 31) (hq : Q 0 μ) : wp_Prog_has p (nI s) μ Q :=
  ⟨fun _ => hq, fun _ => ⟨fun _ => hq, fun h => absurd (by rw [h5]; exact nI_le hs hs2) h⟩⟩
theorem reach_some {μ : Mu} {p n m s v : Nat} {S S' : Nat → Nat} {r : Nat → Int32} (hn : n ≤ 24) (h5 : μ.1 (3 + 5 * p) 5 = nI n) (hl : LO n S r m) (hb : ∀ j, S j < 128) (hv : v ≠ 0) (hv2 : v < 128) (h : rchS n S s v = some S') :
    ∃ r' m', LO n S' r' m' ∧ m ≤ m' ∧ (∀ k, k < m → r' k = r k) ∧ ∀ Q : Int32 → Mu → Prop, Q 1 (cM μ p S' r' m') → wp_Prog_reach p (nI s) (nI v) (cM μ p S r m) Q := by
  have hs := (rch_some h hv).1
  have hc : (nI s).toNatClampNeg = s := nI_clamp (by omega)
  have hin : vp_in (nI s) 24 := vp_in_nI (by omega) (by decide)
  unfold rchS at h
  rw [if_pos hs] at h
  by_cases h0 : S s = 0
  · rw [if_pos h0] at h
    have e : S' = upS S s v := (Option.some.inj h).symm
    subst e
    have hm : m < n := by rw [hl.1]; exact cn_lt h0 hs
    refine ⟨upd r m (nI s), m + 1, ⟨?_, fun k hk => ?_, fun j hj hj0 => ?_⟩, by omega, fun k hk => pk_un (by omega), fun Q hq => hs_y (cM_5.trans h5) hn hs ⟨fun _ => ⟨hin, ?_⟩, fun h => absurd h z1⟩⟩
    · rw [cn_up h0 hv, if_pos hs, ← hl.1]
    · by_cases e : k = m
      · subst e; exact ⟨s, pk_us, hs, by rw [show upS S s v s = v from if_pos rfl]; exact hv⟩
      · obtain ⟨q, e1, e2, e3⟩ := hl.2.1 k (by omega)
        refine ⟨q, (pk_un e).trans e1, e2, ?_⟩
        rw [show upS S s v q = S q from if_neg (fun e => e3 (by rw [e]; exact h0))]
        exact e3
    · by_cases e : j = s
      · subst e; exact ⟨m, by omega, pk_us⟩
      · rw [show upS S s v j = S j from if_neg e] at hj0
        obtain ⟨k, e1, e2⟩ := hl.2.2 j hj hj0
        exact ⟨k, by omega, (pk_un (by omega)).trans e2⟩
    · rw [hc, cM_S (by omega), h0]
      refine ⟨fun h => absurd rfl h, fun _ => ⟨hin, fun μ6 e6 => ?_⟩⟩
      rw [cM_setS (by omega)] at e6
      subst e6
      rw [cM_4, nI_clamp (by omega)]
      refine ⟨vp_in_nI (by omega) (by decide), fun μ8 e8 => ?_⟩
      rw [cM_setR] at e8
      subst e8
      intro μ9 e9
      rw [cM_4, nI_1, cM_setm] at e9
      subst e9
      refine ⟨hin, ?_⟩
      rw [cM_S (by omega), show upS S s v s = v from if_pos rfl]
      exact ⟨fun h => absurd rfl h, fun _ => hq⟩
  · rw [if_neg h0] at h
    by_cases h1 : S s = v
    · rw [if_pos h1] at h
      have e : S' = S := (Option.some.inj h).symm
      subst e
      refine ⟨r, m, hl, Nat.le_refl m, fun _ _ => rfl, fun Q hq => hs_y (cM_5.trans h5) hn hs ⟨fun _ => ⟨hin, ?_⟩, fun h => absurd h z1⟩⟩
      rw [hc, cM_S (by omega), h1]
      exact ⟨fun _ => ⟨hin, fun h => absurd rfl h, fun _ => hq⟩, fun h => absurd h (nI_ne0 (by omega) (by omega))⟩
    · rw [if_neg h1] at h; exact absurd h (by simp)
theorem reach_none {μ : Mu} {p n m s v : Nat} {S : Nat → Nat} {r : Nat → Int32} (hn : n ≤ 24) (h5 : μ.1 (3 + 5 * p) 5 = nI n) (hb : ∀ j, S j < 128) (hs2 : s < 2 ^ 31) (hv2 : v < 128) (h : rchS n S s v = none) {Q : Int32 → Mu → Prop} (hq : Q 0 (cM μ p S r m)) : wp_Prog_reach p (nI s) (nI v) (cM μ p S r m) Q := by
  by_cases hs : s < n
  · have hc : (nI s).toNatClampNeg = s := nI_clamp (by omega)
    have hin : vp_in (nI s) 24 := vp_in_nI (by omega) (by decide)
    unfold rchS at h
    rw [if_pos hs] at h
    by_cases h0 : S s = 0
    · rw [if_pos h0] at h; exact absurd h (by simp)
    · rw [if_neg h0] at h
      by_cases h1 : S s = v
      · rw [if_pos h1] at h; exact absurd h (by simp)
      · refine hs_y (cM_5.trans h5) hn hs ⟨fun _ => ⟨hin, ?_⟩, fun h => absurd h z1⟩
        have hbs := hb s
        rw [hc, cM_S (by omega)]
        exact ⟨fun _ => ⟨hin, fun _ => hq, fun h => absurd ((nI_eq (by omega) (by omega)).mp h) h1⟩, fun h => absurd h (nI_ne0 (by omega) (by omega))⟩
  · exact hs_n (cM_5.trans h5) hn (by omega) hs2 ⟨fun h => absurd rfl h, fun _ => hq⟩
/-- a program's place, as it is in the class's rows -/
def Pl (μ : Mu) (p : Nat) (o g : Nat → Nat) (i : Nat) : Prop := o i < 25 ∧ μ.2.1 (4 + 5 * p) i = nI (o i) ∧ gA2 (o i) (μ.2.1 (5 + 5 * p) i) ∧ g i = (μ.2.1 (5 + 5 * p) i).toNatClampNeg
theorem Pl.arg {μ : Mu} {p i : Nat} {o g : Nat → Nat} (h : Pl μ p o g i) (ho : o i = 17 ∨ o i = 18) : μ.2.1 (5 + 5 * p) i = nI (g i) ∧ g i < 24 := by
  obtain ⟨h1, h2, h3, h4⟩ := h
  rcases h3 with h3 | ⟨a, ha, hae⟩
  · omega
  · have := (hiA_ok (o i) h1).2
    rw [hae, nI_clamp (by omega)] at h4
    rw [h4, hae]
    exact ⟨rfl, by omega⟩
theorem goOn_go {μ : Mu} {p n m i : Nat} {o g S : Nat → Nat} {r : Nat → Int32} (hp : Pl μ p o g i) (hn : n ≤ 24) (hi : i < n) (h0 : S i ≠ 0) (hb : ∀ j, S j < 128) {Q : Int32 → Mu → Prop}
    (hz : nx o g i (S i) = 0 → Q 0 (cM μ p S r m))
    (h1 : nx o g i (S i) ≠ 0 → o i = 0 → Q 1 (cM μ p S r m))
    (h17 : nx o g i (S i) ≠ 0 → o i = 17 → wp_Prog_reach p (nI (g i)) (nI (nx o g i (S i))) (cM μ p S r m) (fun x7 μ6 => ((x7 = 0 ∨ x7 = 1) ∧ Q x7 μ6)))
    (h18 : nx o g i (S i) ≠ 0 → o i = 18 → wp_Prog_reach p (nI (g i)) (nI (nx o g i (S i))) (cM μ p S r m) (fun x10 μ9 => (((x10 = 0) → Q (0 : Int32) μ9) ∧ ((¬ x10 = 0) → wp_Prog_reach p (nI (i + 1)) (nI (nx o g i (S i))) μ9 (fun x12 μ11 => (((x12 = 0) → Q (0 : Int32) μ11) ∧ ((¬ x12 = 0) → Q (1 : Int32) μ11)))))))
    (hr : nx o g i (S i) ≠ 0 → o i ≠ 0 → o i ≠ 17 → o i ≠ 18 → wp_Prog_reach p (nI (i + 1)) (nI (nx o g i (S i))) (cM μ p S r m) (fun x14 μ13 => ((x14 = 0 ∨ x14 = 1) ∧ Q x14 μ13))) : wp_Prog_goOnFrom p (nI i) (cM μ p S r m) Q := by
  have hin : vp_in (nI i) 24 := vp_in_nI (by omega) (by decide)
  have hw : nx o g i (S i) < 128 := af_lt
  have e : (nI (o i)).toInt = o i := nI_toInt (by have := hp.1; omega)
  unfold wp_Prog_goOnFrom
  rw [nI_clamp (by omega), cM_S (by omega), cM_o (by omega) (by omega), cM_o (by omega) (by omega), hp.2.1, e, nI_1]
  refine ⟨hin, hin, hin, after_cls hp.1 hp.2.2.1 (hb i) h0 ?_⟩
  rw [← hp.2.2.2, show af (o i) (g i) (S i) = nx o g i (S i) from rfl]
  refine ⟨fun hx => ?_, fun hx => hz ((nI_eq (b := 0) (by omega) (by decide)).mp hx)⟩
  have hx0 : nx o g i (S i) ≠ 0 := fun e => hx (by rw [e]; rfl)
  refine ⟨fun h => h1 hx0 (by omega), fun h => ?_, fun h => ?_, fun h => hr hx0 (by omega) (by omega) (by omega)⟩
  · rw [(hp.arg (Or.inl (by omega))).1]; exact h17 hx0 (by omega)
  · rw [(hp.arg (Or.inr (by omega))).1]; exact h18 hx0 (by omega)
theorem goOn_some {μ : Mu} {p n m i : Nat} {o g S S' : Nat → Nat} {r : Nat → Int32} (hp : Pl μ p o g i) (hn : n ≤ 24) (h5 : μ.1 (3 + 5 * p) 5 = nI n) (hi : i < n) (h0 : S i ≠ 0) (hb : ∀ j, S j < 128) (hl : LO n S r m) (h : floS n o g S i = some S') :
    ∃ r' m', LO n S' r' m' ∧ m ≤ m' ∧ (∀ k, k < m → r' k = r k) ∧ ∀ Q : Int32 → Mu → Prop, Q 1 (cM μ p S' r' m') → wp_Prog_goOnFrom p (nI i) (cM μ p S r m) Q := by
  have hw : nx o g i (S i) < 128 := af_lt
  have hx : nx o g i (S i) ≠ 0 := fun e => by
    unfold floS at h
    rw [if_pos e] at h
    exact absurd h (by simp)
  rw [flo_cases hx] at h
  by_cases hj : o i = 17 ∨ o i = 18
  · rw [if_pos hj] at h
    cases e : rchS n S (g i) (nx o g i (S i)) with
    | none => rw [e] at h; exact absurd h (by simp)
    | some S1 =>
      rw [e] at h
      obtain ⟨r1, m1, a1, a2, a3, a4⟩ := reach_some (μ := μ) (p := p) hn h5 hl hb hx hw e
      have hb1 := (rch_some e hx).2.2.2.2.2 hw hb
      have h : (if o i = 0 ∨ o i = 17 then some S1 else rchS n S1 (i + 1) (nx o g i (S i))) = some S' := h
      rcases hj with hj | hj
      · rw [if_pos (Or.inr hj)] at h
        have e : S' = S1 := (Option.some.inj h).symm
        subst e
        exact ⟨r1, m1, a1, a2, a3, fun Q hq => goOn_go hp hn hi h0 hb (fun h => absurd h hx) (fun _ h => by omega) (fun _ _ => a4 _ ⟨Or.inr rfl, hq⟩) (fun _ h => by omega) (fun _ _ h => absurd hj h)⟩
      · rw [if_neg (show ¬ (o i = 0 ∨ o i = 17) by omega)] at h
        obtain ⟨r2, m2, b1, b2, b3, b4⟩ := reach_some (μ := μ) (p := p) hn h5 a1 hb1 hx hw h
        exact ⟨r2, m2, b1, Nat.le_trans a2 b2, fun k hk => (b3 k (by omega)).trans (a3 k hk), fun Q hq => goOn_go hp hn hi h0 hb (fun h => absurd h hx) (fun _ h => by omega) (fun _ h => by omega) (fun _ _ => a4 _ ⟨fun h => absurd h z1, fun _ => b4 _ ⟨fun h => absurd h z1, fun _ => hq⟩⟩) (fun _ _ _ h => absurd hj h)⟩
  · rw [if_neg hj] at h
    have h : (if o i = 0 ∨ o i = 17 then some S else rchS n S (i + 1) (nx o g i (S i))) = some S' := h
    by_cases hz : o i = 0
    · rw [if_pos (Or.inl hz)] at h
      have e : S' = S := (Option.some.inj h).symm
      subst e
      exact ⟨r, m, hl, Nat.le_refl m, fun _ _ => rfl, fun Q hq => goOn_go hp hn hi h0 hb (fun h => absurd h hx) (fun _ _ => hq) (fun _ h => by omega) (fun _ h => by omega) (fun _ h => absurd hz h)⟩
    · rw [if_neg (show ¬ (o i = 0 ∨ o i = 17) by omega)] at h
      obtain ⟨r2, m2, b1, b2, b3, b4⟩ := reach_some (μ := μ) (p := p) hn h5 hl hb hx hw h
      exact ⟨r2, m2, b1, b2, b3, fun Q hq => goOn_go hp hn hi h0 hb (fun h => absurd h hx) (fun _ h => absurd h hz) (fun _ h => by omega) (fun _ h => by omega) (fun _ _ _ _ => b4 _ ⟨Or.inr rfl, hq⟩)⟩
theorem goOn_none {μ : Mu} {p n m i : Nat} {o g S : Nat → Nat} {r : Nat → Int32} (hp : Pl μ p o g i) (hn : n ≤ 24) (h5 : μ.1 (3 + 5 * p) 5 = nI n) (hi : i < n) (h0 : S i ≠ 0) (hb : ∀ j, S j < 128) (hl : LO n S r m) (h : floS n o g S i = none) :
    ∃ S' r' m', ∀ Q : Int32 → Mu → Prop, Q 0 (cM μ p S' r' m') → wp_Prog_goOnFrom p (nI i) (cM μ p S r m) Q := by
  have hw : nx o g i (S i) < 128 := af_lt
  by_cases hx : nx o g i (S i) = 0
  · exact ⟨S, r, m, fun Q hq => goOn_go hp hn hi h0 hb (fun _ => hq) (fun h => absurd hx h) (fun h => absurd hx h) (fun h => absurd hx h) (fun h => absurd hx h)⟩
  rw [flo_cases hx] at h
  by_cases hj : o i = 17 ∨ o i = 18
  · rw [if_pos hj] at h
    have hga := (hp.arg hj).2
    cases e : rchS n S (g i) (nx o g i (S i)) with
    | none => exact ⟨S, r, m, fun Q hq => goOn_go hp hn hi h0 hb (fun _ => hq) (fun _ h => by omega) (fun _ _ => reach_none hn h5 hb (by omega) hw e ⟨Or.inl rfl, hq⟩) (fun _ _ => reach_none hn h5 hb (by omega) hw e ⟨fun _ => hq, fun h => absurd rfl h⟩) (fun _ _ _ _ => by omega)⟩
    | some S1 =>
      rw [e] at h
      obtain ⟨r1, m1, a1, a2, a3, a4⟩ := reach_some (μ := μ) (p := p) hn h5 hl hb hx hw e
      have hb1 := (rch_some e hx).2.2.2.2.2 hw hb
      have h : (if o i = 0 ∨ o i = 17 then some S1 else rchS n S1 (i + 1) (nx o g i (S i))) = none := h
      rcases hj with hj | hj
      · rw [if_pos (Or.inr hj)] at h; exact absurd h (by simp)
      · rw [if_neg (show ¬ (o i = 0 ∨ o i = 17) by omega)] at h
        exact ⟨S1, r1, m1, fun Q hq => goOn_go hp hn hi h0 hb (fun h => absurd h hx) (fun _ h => by omega) (fun _ h => by omega) (fun _ _ => a4 _ ⟨fun h => absurd h z1, fun _ => reach_none hn h5 hb1 (by omega) hw h ⟨fun _ => hq, fun h => absurd rfl h⟩⟩) (fun _ _ _ h => absurd hj h)⟩
  · rw [if_neg hj] at h
    have h : (if o i = 0 ∨ o i = 17 then some S else rchS n S (i + 1) (nx o g i (S i))) = none := h
    by_cases hz : o i = 0
    · rw [if_pos (Or.inl hz)] at h; exact absurd h (by simp)
    · rw [if_neg (show ¬ (o i = 0 ∨ o i = 17) by omega)] at h
      exact ⟨S, r, m, fun Q hq => goOn_go hp hn hi h0 hb (fun h => absurd h hx) (fun _ h => absurd h hz) (fun _ h => by omega) (fun _ h => by omega) (fun _ _ _ _ => reach_none hn h5 hb (by omega) hw h ⟨Or.inl rfl, hq⟩)⟩
theorem Cl.ext {n i : Nat} {o g S S' : Nat → Nat} (h : Cl n o g S i) (h0 : S i ≠ 0) (he : ∀ j, S j ≠ 0 → S' j = S j) : Cl n o g S' i := by
  obtain ⟨h1, h2, h3⟩ := h
  have e := he i h0
  unfold Cl
  rw [e]
  refine ⟨h1, fun hj => ?_, ?_⟩
  · obtain ⟨a, b⟩ := h2 hj
    exact ⟨a, (he _ (by rw [b]; exact h1)).trans b⟩
  · rcases h3 with h | h | ⟨a, b⟩
    · exact Or.inl h
    · exact Or.inr (Or.inl h)
    · exact Or.inr (Or.inr ⟨a, (he _ (by rw [b]; exact h1)).trans b⟩)
theorem sound_loop {μ : Mu} {p n : Nat} {o g : Nat → Nat} (hp : ∀ i, i < n → Pl μ p o g i) (hn : n ≤ 24) (hn0 : 0 < n) (h5 : μ.1 (3 + 5 * p) 5 = nI n) : ∀ (f i m : Nat) (S : Nat → Nat) (r : Nat → Int32), i + f = 25 → i ≤ m → LO n S r m → (∀ k, k < i → ∀ q, q < n → r k = nI q → Cl n o g S q) → S 0 = 1 → (∀ j, S j < 128) → (∀ T, Sol n o g T → Le n S T) →
    ∃ x S' r' m', Ans n o g x S' ∧ ∀ (K : Int32 → Int32 → Mu → Prop) (Q : Int32 → Mu → Prop), (∀ v, K (nI x) v (cM μ p S' r' m')) → wp_Prog_isSound_22 p K Q f 1 (nI i) (cM μ p S r m)
  | 0, i, m, S, r, hf, him, hl, _, _, _, _ => by
    have := cn_le S n
    have := hl.1
    omega
  | f + 1, i, m, S, r, hf, him, hl, hc, hs0, hb, hmin => by
    have hcn := cn_le S n
    have hm := hl.1
    by_cases hmi : m ≤ i
    · refine ⟨1, S, r, m, Or.inl ⟨rfl, ⟨hn0, hs0, fun j hj hj0 => ?_⟩, hmin, hb⟩, fun K Q hK => ⟨fun h => absurd h z1, fun _ => ⟨fun _ => hK _, fun h => ?_⟩⟩⟩
      · obtain ⟨k, hk, e⟩ := hl.2.2 j hj hj0
        exact hc k (by omega) j hj e
      · rw [cM_4] at h; exact absurd (nI_le hmi (by omega)) h
    · obtain ⟨q, e1, e2, e3⟩ := hl.2.1 i (by omega)
      have hstep : ∀ (K : Int32 → Int32 → Mu → Prop) (Q : Int32 → Mu → Prop), wp_Prog_goOnFrom p (nI q) (cM μ p S r m) (fun x7 μ6 => wp_Prog_isSound_22 p K Q f x7 (nI (i + 1)) μ6) → wp_Prog_isSound_22 p K Q (f + 1) 1 (nI i) (cM μ p S r m) := fun K Q h => by
        refine ⟨fun h => absurd h z1, fun _ => ⟨fun h => ?_, fun _ => ⟨fun h => absurd h (nI_ge (b := 24) (by omega) (by decide)), fun _ => ⟨vp_in_nI (by omega) (by decide), ?_⟩⟩⟩⟩
        · rw [cM_4] at h; exact absurd h (nI_ge (by omega) (by omega))
        · rw [nI_clamp (by omega), cM_r, e1, nI_1]; exact h
      cases hfl : floS n o g S q with
      | none =>
        obtain ⟨S', r', m', hw⟩ := goOn_none (hp q e2) hn h5 e2 e3 hb hl hfl
        refine ⟨0, S', r', m', Or.inr ⟨rfl, fun T hT => flo_none hfl e2 e3 hT (hmin T hT)⟩, fun K Q hK => hstep K Q (hw _ ?_)⟩
        match f, hf with
        | 0, hf => omega
        | f' + 1, _ => exact ⟨fun _ => hK _, fun h => absurd rfl h⟩
      | some S' =>
        obtain ⟨r', m', b1, b2, b3, hw⟩ := goOn_some (hp q e2) hn h5 e2 e3 hb hl hfl
        obtain ⟨c1, c2, c3, c4, c5⟩ := flo_some hfl e2 e3
        have hcl : ∀ k, k < i + 1 → ∀ q, q < n → r' k = nI q → Cl n o g S' q := by
          intro k hk q' hq' e
          rw [b3 k (by omega)] at e
          by_cases hki : k = i
          · subst hki
            rw [e1] at e
            rw [← (nI_eq (by omega) (by omega)).mp e]
            exact c1
          · obtain ⟨q2, d1, d2, d3⟩ := hl.2.1 k (by omega)
            have hqq : q2 = q' := (nI_eq (by omega) (by omega)).mp (d1.symm.trans e)
            subst hqq
            exact (hc k (by omega) q2 hq' e).ext d3 c2
        obtain ⟨x, S2, r2, m2, hA, hK2⟩ := sound_loop hp hn hn0 h5 f (i + 1) m' S' r' (by omega) (by omega) b1 hcl ((c2 0 (by omega)).trans hs0) (c5 hb) (fun T hT => c4 T hT (hmin T hT))
        exact ⟨x, S2, r2, m2, hA, fun K Q hK => hstep K Q (hw _ (hK2 K Q hK))⟩
/-- a row that is filled up to i -/
def fM (μ : Mu) (k i : Nat) : Mu := (μ.1, fun a b => if a = k ∧ b < i then 0 else μ.2.1 a b, μ.2.2)
theorem fM_set {μ : Mu} {k i : Nat} : setA (fM μ k i) k i 0 = fM μ k (i + 1) := by
  unfold fM setA
  refine Prod.ext rfl (Prod.ext (funext fun a => funext fun b => ?_) rfl)
  show (if a = k ∧ b = i then 0 else if a = k ∧ b < i then 0 else μ.2.1 a b) = if a = k ∧ b < i + 1 then 0 else μ.2.1 a b
  by_cases h1 : a = k ∧ b = i
  · rw [if_pos h1, if_pos ⟨h1.1, by omega⟩]
  · rw [if_neg h1]
    by_cases h2 : a = k ∧ b < i
    · rw [if_pos h2, if_pos ⟨h2.1, by omega⟩]
    · rw [if_neg h2, if_neg (by omega)]
theorem fill_loop {μ : Mu} {k : Nat} {Q : Mu → Prop} (hq : Q (fM μ k 24)) : ∀ f i, i + f = 24 → wp_JA_fill_5 k 24 0 (nI 24) (fun _ μ4 => Q μ4) Q (f + 1) (nI i) (fM μ k i)
  | 0, i, h => by
    have e : i = 24 := by omega
    subst e
    exact ⟨fun _ => hq, fun h => absurd (nI_le (Nat.le_refl 24) (by decide)) h⟩
  | f + 1, i, h => by
    refine ⟨fun h => absurd h (nI_ge (by omega) (by decide)), fun _ => ⟨vp_in_nI (by omega) (by decide), fun μ2 e2 => ?_⟩⟩
    rw [nI_clamp (by omega), fM_set] at e2
    subst e2
    rw [nI_1]
    exact fill_loop hq f (i + 1) (by omega)
theorem fill_ok {μ : Mu} {k : Nat} {Q : Mu → Prop} (hq : Q (fM μ k 24)) : wp_JA_fill k 24 0 μ Q := by
  refine ⟨25, ?_⟩
  have e : fM μ k 0 = μ := by
    unfold fM
    refine Prod.ext rfl (Prod.ext (funext fun a => funext fun b => ?_) rfl)
    exact if_neg (fun h => absurd h.2 (by omega))
  have := fill_loop hq 24 0 (by omega)
  rw [e] at this
  exact this
theorem fM_cM {μ : Mu} {p : Nat} : setF (fM μ (6 + 5 * p) 24) (3 + 5 * p) 4 0 = cM μ p (fun _ => 0) (fun i => μ.2.1 (7 + 5 * p) i) 0 := by
  unfold fM setF cM
  refine Prod.ext rfl (Prod.ext (funext fun a => funext fun b => ?_) rfl)
  show (if a = 6 + 5 * p ∧ b < 24 then 0 else μ.2.1 a b) = if a = 6 + 5 * p ∧ b < 24 then nI 0 else if a = 7 + 5 * p then μ.2.1 (7 + 5 * p) b else μ.2.1 a b
  by_cases h1 : a = 6 + 5 * p ∧ b < 24
  · rw [if_pos h1, if_pos h1]; rfl
  · rw [if_neg h1, if_neg h1]
    by_cases h2 : a = 7 + 5 * p
    · rw [if_pos h2, h2]
    · rw [if_neg h2]
theorem cn_0 : ∀ n, cnS n (fun _ => 0) = 0
  | 0 => rfl
  | n + 1 => by unfold cnS; rw [cn_0 n]; rfl
theorem sound_ok {μ : Mu} {p n : Nat} {o g : Nat → Nat} (hp : ∀ i, i < n → Pl μ p o g i) (hn : n ≤ 24) (h5 : μ.1 (3 + 5 * p) 5 = nI n) :
    ∃ x S' r' m', Ans n o g x S' ∧ ∀ Q : Int32 → Mu → Prop, Q (nI x) (cM μ p S' r' m') → wp_Prog_isSound p μ Q := by
  have hstart : ∀ Q : Int32 → Mu → Prop, wp_Prog_reach p (0 : Int32) (1 : Int32) (cM μ p (fun _ => 0) (fun i => μ.2.1 (7 + 5 * p) i) 0) (fun x4 μ3 => (∃ n22, wp_Prog_isSound_22 p (fun v8 v9 μ10 => ((v8 = 0 ∨ v8 = 1) ∧ Q v8 μ10)) Q n22 x4 (0 : Int32) μ3)) → wp_Prog_isSound p μ Q := fun Q h => by
    refine fill_ok (fun μ2 e2 => ?_)
    rw [fM_cM] at e2
    subst e2
    exact h
  have hl0 : LO n (fun _ => 0) (fun i => μ.2.1 (7 + 5 * p) i) 0 := ⟨(cn_0 n).symm, fun k hk => by omega, fun j _ h => absurd rfl h⟩
  have hb0 : ∀ j : Nat, (fun _ => 0 : Nat → Nat) j < 128 := fun j => (by decide : (0 : Nat) < 128)
  by_cases hn0 : 0 < n
  · have e : rchS n (fun _ => 0) 0 1 = some (upS (fun _ => 0) 0 1) := by
      unfold rchS
      rw [if_pos hn0, if_pos rfl]
    obtain ⟨r', m', a1, a2, a3, a4⟩ := reach_some (μ := μ) (p := p) hn h5 hl0 hb0 (by decide) (by decide) e
    obtain ⟨x, S2, r2, m2, hA, hK⟩ := sound_loop hp hn hn0 h5 25 0 m' (upS (fun _ => 0) 0 1) r' (by omega) (by omega) a1 (fun k hk => by omega) rfl (fun j => by unfold upS; split; exact (by decide : (1 : Nat) < 128); exact (by decide : (0 : Nat) < 128)) (fun T hT j hj hj0 => by
      by_cases h : j = 0
      · subst h; exact hT.2.1
      · exact absurd (if_neg h) hj0)
    refine ⟨x, S2, r2, m2, hA, fun Q hq => hstart Q (a4 _ ⟨25, hK _ Q (fun v => ⟨?_, hq⟩)⟩)⟩
    rcases hA with ⟨rfl, -⟩ | ⟨rfl, -⟩
    · exact Or.inr rfl
    · exact Or.inl rfl
  · have e : rchS n (fun _ => 0) 0 1 = none := by
      unfold rchS
      rw [if_neg hn0]
    exact ⟨0, fun _ => 0, _, 0, Or.inr ⟨rfl, fun T hT => hn0 hT.1⟩, fun Q hq => hstart Q (reach_none (s := 0) (v := 1) hn h5 hb0 (by decide) (by decide) e ⟨1, fun _ => ⟨Or.inl rfl, hq⟩, fun h => absurd rfl h⟩)⟩
